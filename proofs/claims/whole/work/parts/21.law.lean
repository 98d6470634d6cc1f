/-! THE LAW, printed by wip/whole/gen/gen_law.py -/
theorem d11_law_0 : decode code 0 = .ok (.new 7, 3) := by decide +kernel
theorem d11_law_3 : decode code 3 = .ok (.dup, 1) := by decide +kernel
theorem d11_law_4 : decode code 4 = .ok (.invokespecial 9, 3) := by decide +kernel
theorem d11_law_7 : decode code 7 = .ok (.astore_n 1, 1) := by decide +kernel
theorem d11_law_8 : decode code 8 = .ok (.new 10, 3) := by decide +kernel
theorem d11_law_11 : decode code 11 = .ok (.dup, 1) := by decide +kernel
theorem d11_law_12 : decode code 12 = .ok (.invokespecial 12, 3) := by decide +kernel
theorem d11_law_15 : decode code 15 = .ok (.astore_n 2, 1) := by decide +kernel
theorem d11_law_16 : decode code 16 = .ok (.iconst 0, 1) := by decide +kernel
theorem d11_law_17 : decode code 17 = .ok (.istore_n 3, 1) := by decide +kernel
theorem d11_law_18 : decode code 18 = .ok (.iload_n 3, 1) := by decide +kernel
theorem d11_law_19 : decode code 19 = .ok (.aload_n 0, 1) := by decide +kernel
theorem d11_law_20 : decode code 20 = .ok (.arraylength, 1) := by decide +kernel
theorem d11_law_21 : decode code 21 = .ok (.bipush 6, 2) := by decide +kernel
theorem d11_law_23 : decode code 23 = .ok (.isub, 1) := by decide +kernel
theorem d11_law_24 : decode code 24 = .ok (.if_icmp .gt 2074, 3) := by decide +kernel
theorem d11_law_27 : decode code 27 = .ok (.aload_n 0, 1) := by decide +kernel
theorem d11_law_28 : decode code 28 = .ok (.iload_n 3, 1) := by decide +kernel
theorem d11_law_29 : decode code 29 = .ok (.iaload, 1) := by decide +kernel
theorem d11_law_30 : decode code 30 = .ok (.bipush 127, 2) := by decide +kernel
theorem d11_law_32 : decode code 32 = .ok (.iand, 1) := by decide +kernel
theorem d11_law_33 : decode code 33 = .ok (.tableswitch 2059 0 72 #[307, 370, 393, 406, 429, 462, 485, 508, 531, 554, 577, 600, 613, 626, 639, 662, 685, 698, 711, 724, 737, 750, 773, 796, 809, 832, 855, 878, 901, 934, 947, 970, 983, 996, 1009, 1032, 1045, 1068, 1082, 1105, 1128, 1141, 1164, 1187, 1200, 1213, 1236, 1259, 1282, 1305, 1328, 1351, 1374, 1397, 1420, 1453, 1486, 1539, 1573, 1597, 1620, 1653, 1686, 1699, 1712, 1745, 1788, 1811, 1834, 1857, 1880, 1923, 1996], 307) := by decide +kernel
theorem d11_law_340 : decode code 340 = .ok (.aload_n 1, 1) := by decide +kernel
theorem d11_law_341 : decode code 341 = .ok (.aload_n 0, 1) := by decide +kernel
theorem d11_law_342 : decode code 342 = .ok (.iload_n 3, 1) := by decide +kernel
theorem d11_law_343 : decode code 343 = .ok (.iconst 1, 1) := by decide +kernel
theorem d11_law_344 : decode code 344 = .ok (.iadd, 1) := by decide +kernel
theorem d11_law_345 : decode code 345 = .ok (.iaload, 1) := by decide +kernel
theorem d11_law_346 : decode code 346 = .ok (.aload_n 0, 1) := by decide +kernel
theorem d11_law_347 : decode code 347 = .ok (.iload_n 3, 1) := by decide +kernel
theorem d11_law_348 : decode code 348 = .ok (.iconst 2, 1) := by decide +kernel
theorem d11_law_349 : decode code 349 = .ok (.iadd, 1) := by decide +kernel
theorem d11_law_350 : decode code 350 = .ok (.iaload, 1) := by decide +kernel
theorem d11_law_351 : decode code 351 = .ok (.aload_n 0, 1) := by decide +kernel
theorem d11_law_352 : decode code 352 = .ok (.iload_n 3, 1) := by decide +kernel
theorem d11_law_353 : decode code 353 = .ok (.iconst 3, 1) := by decide +kernel
theorem d11_law_354 : decode code 354 = .ok (.iadd, 1) := by decide +kernel
theorem d11_law_355 : decode code 355 = .ok (.iaload, 1) := by decide +kernel
theorem d11_law_356 : decode code 356 = .ok (.aload_n 0, 1) := by decide +kernel
theorem d11_law_357 : decode code 357 = .ok (.iload_n 3, 1) := by decide +kernel
theorem d11_law_358 : decode code 358 = .ok (.iconst 4, 1) := by decide +kernel
theorem d11_law_359 : decode code 359 = .ok (.iadd, 1) := by decide +kernel
theorem d11_law_360 : decode code 360 = .ok (.iaload, 1) := by decide +kernel
theorem d11_law_361 : decode code 361 = .ok (.aload_n 0, 1) := by decide +kernel
theorem d11_law_362 : decode code 362 = .ok (.iload_n 3, 1) := by decide +kernel
theorem d11_law_363 : decode code 363 = .ok (.iconst 5, 1) := by decide +kernel
theorem d11_law_364 : decode code 364 = .ok (.iadd, 1) := by decide +kernel
theorem d11_law_365 : decode code 365 = .ok (.iaload, 1) := by decide +kernel
theorem d11_law_366 : decode code 366 = .ok (.invokevirtual 13, 3) := by decide +kernel
theorem d11_law_369 : decode code 369 = .ok (.aload_n 2, 1) := by decide +kernel
theorem d11_law_370 : decode code 370 = .ok (.aload_n 0, 1) := by decide +kernel
theorem d11_law_371 : decode code 371 = .ok (.iload_n 3, 1) := by decide +kernel
theorem d11_law_372 : decode code 372 = .ok (.iconst 1, 1) := by decide +kernel
theorem d11_law_373 : decode code 373 = .ok (.iadd, 1) := by decide +kernel
theorem d11_law_374 : decode code 374 = .ok (.iaload, 1) := by decide +kernel
theorem d11_law_375 : decode code 375 = .ok (.aload_n 0, 1) := by decide +kernel
theorem d11_law_376 : decode code 376 = .ok (.iload_n 3, 1) := by decide +kernel
theorem d11_law_377 : decode code 377 = .ok (.iconst 2, 1) := by decide +kernel
theorem d11_law_378 : decode code 378 = .ok (.iadd, 1) := by decide +kernel
theorem d11_law_379 : decode code 379 = .ok (.iaload, 1) := by decide +kernel
theorem d11_law_380 : decode code 380 = .ok (.aload_n 0, 1) := by decide +kernel
theorem d11_law_381 : decode code 381 = .ok (.iload_n 3, 1) := by decide +kernel
theorem d11_law_382 : decode code 382 = .ok (.iconst 3, 1) := by decide +kernel
theorem d11_law_383 : decode code 383 = .ok (.iadd, 1) := by decide +kernel
theorem d11_law_384 : decode code 384 = .ok (.iaload, 1) := by decide +kernel
theorem d11_law_385 : decode code 385 = .ok (.aload_n 0, 1) := by decide +kernel
theorem d11_law_386 : decode code 386 = .ok (.iload_n 3, 1) := by decide +kernel
theorem d11_law_387 : decode code 387 = .ok (.iconst 4, 1) := by decide +kernel
theorem d11_law_388 : decode code 388 = .ok (.iadd, 1) := by decide +kernel
theorem d11_law_389 : decode code 389 = .ok (.iaload, 1) := by decide +kernel
theorem d11_law_390 : decode code 390 = .ok (.aload_n 0, 1) := by decide +kernel
theorem d11_law_391 : decode code 391 = .ok (.iload_n 3, 1) := by decide +kernel
theorem d11_law_392 : decode code 392 = .ok (.iconst 5, 1) := by decide +kernel
theorem d11_law_393 : decode code 393 = .ok (.iadd, 1) := by decide +kernel
theorem d11_law_394 : decode code 394 = .ok (.iaload, 1) := by decide +kernel
theorem d11_law_395 : decode code 395 = .ok (.invokevirtual 17, 3) := by decide +kernel
theorem d11_law_398 : decode code 398 = .ok (.if_icmp .eq 1694, 3) := by decide +kernel
theorem d11_law_401 : decode code 401 = .ok (.iconst 0, 1) := by decide +kernel
theorem d11_law_402 : decode code 402 = .ok (.ireturn, 1) := by decide +kernel
theorem d11_law_403 : decode code 403 = .ok (.aload_n 1, 1) := by decide +kernel
theorem d11_law_404 : decode code 404 = .ok (.aload_n 0, 1) := by decide +kernel
theorem d11_law_405 : decode code 405 = .ok (.iload_n 3, 1) := by decide +kernel
theorem d11_law_406 : decode code 406 = .ok (.iconst 1, 1) := by decide +kernel
theorem d11_law_407 : decode code 407 = .ok (.iadd, 1) := by decide +kernel
theorem d11_law_408 : decode code 408 = .ok (.iaload, 1) := by decide +kernel
theorem d11_law_409 : decode code 409 = .ok (.invokevirtual 18, 3) := by decide +kernel
theorem d11_law_412 : decode code 412 = .ok (.aload_n 2, 1) := by decide +kernel
theorem d11_law_413 : decode code 413 = .ok (.aload_n 0, 1) := by decide +kernel
theorem d11_law_414 : decode code 414 = .ok (.iload_n 3, 1) := by decide +kernel
theorem d11_law_415 : decode code 415 = .ok (.iconst 1, 1) := by decide +kernel
theorem d11_law_416 : decode code 416 = .ok (.iadd, 1) := by decide +kernel
theorem d11_law_417 : decode code 417 = .ok (.iaload, 1) := by decide +kernel
theorem d11_law_418 : decode code 418 = .ok (.invokevirtual 22, 3) := by decide +kernel
theorem d11_law_421 : decode code 421 = .ok (.if_icmp .eq 1671, 3) := by decide +kernel
theorem d11_law_424 : decode code 424 = .ok (.iconst 0, 1) := by decide +kernel
theorem d11_law_425 : decode code 425 = .ok (.ireturn, 1) := by decide +kernel
theorem d11_law_426 : decode code 426 = .ok (.aload_n 1, 1) := by decide +kernel
theorem d11_law_427 : decode code 427 = .ok (.invokevirtual 23, 3) := by decide +kernel
theorem d11_law_430 : decode code 430 = .ok (.aload_n 2, 1) := by decide +kernel
theorem d11_law_431 : decode code 431 = .ok (.invokevirtual 27, 3) := by decide +kernel
theorem d11_law_434 : decode code 434 = .ok (.if_icmp .eq 1658, 3) := by decide +kernel
theorem d11_law_437 : decode code 437 = .ok (.iconst 0, 1) := by decide +kernel
theorem d11_law_438 : decode code 438 = .ok (.ireturn, 1) := by decide +kernel
theorem d11_law_439 : decode code 439 = .ok (.aload_n 1, 1) := by decide +kernel
theorem d11_law_440 : decode code 440 = .ok (.aload_n 0, 1) := by decide +kernel
theorem d11_law_441 : decode code 441 = .ok (.iload_n 3, 1) := by decide +kernel
theorem d11_law_442 : decode code 442 = .ok (.iconst 1, 1) := by decide +kernel
theorem d11_law_443 : decode code 443 = .ok (.iadd, 1) := by decide +kernel
theorem d11_law_444 : decode code 444 = .ok (.iaload, 1) := by decide +kernel
theorem d11_law_445 : decode code 445 = .ok (.invokevirtual 28, 3) := by decide +kernel
theorem d11_law_448 : decode code 448 = .ok (.aload_n 2, 1) := by decide +kernel
theorem d11_law_449 : decode code 449 = .ok (.aload_n 0, 1) := by decide +kernel
theorem d11_law_450 : decode code 450 = .ok (.iload_n 3, 1) := by decide +kernel
theorem d11_law_451 : decode code 451 = .ok (.iconst 1, 1) := by decide +kernel
theorem d11_law_452 : decode code 452 = .ok (.iadd, 1) := by decide +kernel
theorem d11_law_453 : decode code 453 = .ok (.iaload, 1) := by decide +kernel
theorem d11_law_454 : decode code 454 = .ok (.invokevirtual 31, 3) := by decide +kernel
theorem d11_law_457 : decode code 457 = .ok (.if_icmp .eq 1635, 3) := by decide +kernel
theorem d11_law_460 : decode code 460 = .ok (.iconst 0, 1) := by decide +kernel
theorem d11_law_461 : decode code 461 = .ok (.ireturn, 1) := by decide +kernel
theorem d11_law_462 : decode code 462 = .ok (.aload_n 1, 1) := by decide +kernel
theorem d11_law_463 : decode code 463 = .ok (.aload_n 0, 1) := by decide +kernel
theorem d11_law_464 : decode code 464 = .ok (.iload_n 3, 1) := by decide +kernel
theorem d11_law_465 : decode code 465 = .ok (.iconst 1, 1) := by decide +kernel
theorem d11_law_466 : decode code 466 = .ok (.iadd, 1) := by decide +kernel
theorem d11_law_467 : decode code 467 = .ok (.iaload, 1) := by decide +kernel
theorem d11_law_468 : decode code 468 = .ok (.aload_n 0, 1) := by decide +kernel
theorem d11_law_469 : decode code 469 = .ok (.iload_n 3, 1) := by decide +kernel
theorem d11_law_470 : decode code 470 = .ok (.iconst 2, 1) := by decide +kernel
theorem d11_law_471 : decode code 471 = .ok (.iadd, 1) := by decide +kernel
theorem d11_law_472 : decode code 472 = .ok (.iaload, 1) := by decide +kernel
theorem d11_law_473 : decode code 473 = .ok (.invokevirtual 32, 3) := by decide +kernel
theorem d11_law_476 : decode code 476 = .ok (.aload_n 2, 1) := by decide +kernel
theorem d11_law_477 : decode code 477 = .ok (.aload_n 0, 1) := by decide +kernel
theorem d11_law_478 : decode code 478 = .ok (.iload_n 3, 1) := by decide +kernel
theorem d11_law_479 : decode code 479 = .ok (.iconst 1, 1) := by decide +kernel
theorem d11_law_480 : decode code 480 = .ok (.iadd, 1) := by decide +kernel
theorem d11_law_481 : decode code 481 = .ok (.iaload, 1) := by decide +kernel
theorem d11_law_482 : decode code 482 = .ok (.aload_n 0, 1) := by decide +kernel
theorem d11_law_483 : decode code 483 = .ok (.iload_n 3, 1) := by decide +kernel
theorem d11_law_484 : decode code 484 = .ok (.iconst 2, 1) := by decide +kernel
theorem d11_law_485 : decode code 485 = .ok (.iadd, 1) := by decide +kernel
theorem d11_law_486 : decode code 486 = .ok (.iaload, 1) := by decide +kernel
theorem d11_law_487 : decode code 487 = .ok (.invokevirtual 36, 3) := by decide +kernel
theorem d11_law_490 : decode code 490 = .ok (.if_icmp .eq 1602, 3) := by decide +kernel
theorem d11_law_493 : decode code 493 = .ok (.iconst 0, 1) := by decide +kernel
theorem d11_law_494 : decode code 494 = .ok (.ireturn, 1) := by decide +kernel
theorem d11_law_495 : decode code 495 = .ok (.aload_n 1, 1) := by decide +kernel
theorem d11_law_496 : decode code 496 = .ok (.aload_n 0, 1) := by decide +kernel
theorem d11_law_497 : decode code 497 = .ok (.iload_n 3, 1) := by decide +kernel
theorem d11_law_498 : decode code 498 = .ok (.iconst 1, 1) := by decide +kernel
theorem d11_law_499 : decode code 499 = .ok (.iadd, 1) := by decide +kernel
theorem d11_law_500 : decode code 500 = .ok (.iaload, 1) := by decide +kernel
theorem d11_law_501 : decode code 501 = .ok (.invokevirtual 37, 3) := by decide +kernel
theorem d11_law_504 : decode code 504 = .ok (.aload_n 2, 1) := by decide +kernel
theorem d11_law_505 : decode code 505 = .ok (.aload_n 0, 1) := by decide +kernel
theorem d11_law_506 : decode code 506 = .ok (.iload_n 3, 1) := by decide +kernel
theorem d11_law_507 : decode code 507 = .ok (.iconst 1, 1) := by decide +kernel
theorem d11_law_508 : decode code 508 = .ok (.iadd, 1) := by decide +kernel
theorem d11_law_509 : decode code 509 = .ok (.iaload, 1) := by decide +kernel
theorem d11_law_510 : decode code 510 = .ok (.invokevirtual 40, 3) := by decide +kernel
theorem d11_law_513 : decode code 513 = .ok (.if_icmp .eq 1579, 3) := by decide +kernel
theorem d11_law_516 : decode code 516 = .ok (.iconst 0, 1) := by decide +kernel
theorem d11_law_517 : decode code 517 = .ok (.ireturn, 1) := by decide +kernel
theorem d11_law_518 : decode code 518 = .ok (.aload_n 1, 1) := by decide +kernel
theorem d11_law_519 : decode code 519 = .ok (.aload_n 0, 1) := by decide +kernel
theorem d11_law_520 : decode code 520 = .ok (.iload_n 3, 1) := by decide +kernel
theorem d11_law_521 : decode code 521 = .ok (.iconst 1, 1) := by decide +kernel
theorem d11_law_522 : decode code 522 = .ok (.iadd, 1) := by decide +kernel
theorem d11_law_523 : decode code 523 = .ok (.iaload, 1) := by decide +kernel
theorem d11_law_524 : decode code 524 = .ok (.invokevirtual 41, 3) := by decide +kernel
theorem d11_law_527 : decode code 527 = .ok (.aload_n 2, 1) := by decide +kernel
theorem d11_law_528 : decode code 528 = .ok (.aload_n 0, 1) := by decide +kernel
theorem d11_law_529 : decode code 529 = .ok (.iload_n 3, 1) := by decide +kernel
theorem d11_law_530 : decode code 530 = .ok (.iconst 1, 1) := by decide +kernel
theorem d11_law_531 : decode code 531 = .ok (.iadd, 1) := by decide +kernel
theorem d11_law_532 : decode code 532 = .ok (.iaload, 1) := by decide +kernel
theorem d11_law_533 : decode code 533 = .ok (.invokevirtual 44, 3) := by decide +kernel
theorem d11_law_536 : decode code 536 = .ok (.if_icmp .eq 1556, 3) := by decide +kernel
theorem d11_law_539 : decode code 539 = .ok (.iconst 0, 1) := by decide +kernel
theorem d11_law_540 : decode code 540 = .ok (.ireturn, 1) := by decide +kernel
theorem d11_law_541 : decode code 541 = .ok (.aload_n 1, 1) := by decide +kernel
theorem d11_law_542 : decode code 542 = .ok (.aload_n 0, 1) := by decide +kernel
theorem d11_law_543 : decode code 543 = .ok (.iload_n 3, 1) := by decide +kernel
theorem d11_law_544 : decode code 544 = .ok (.iconst 1, 1) := by decide +kernel
theorem d11_law_545 : decode code 545 = .ok (.iadd, 1) := by decide +kernel
theorem d11_law_546 : decode code 546 = .ok (.iaload, 1) := by decide +kernel
theorem d11_law_547 : decode code 547 = .ok (.invokevirtual 45, 3) := by decide +kernel
theorem d11_law_550 : decode code 550 = .ok (.aload_n 2, 1) := by decide +kernel
theorem d11_law_551 : decode code 551 = .ok (.aload_n 0, 1) := by decide +kernel
theorem d11_law_552 : decode code 552 = .ok (.iload_n 3, 1) := by decide +kernel
theorem d11_law_553 : decode code 553 = .ok (.iconst 1, 1) := by decide +kernel
theorem d11_law_554 : decode code 554 = .ok (.iadd, 1) := by decide +kernel
theorem d11_law_555 : decode code 555 = .ok (.iaload, 1) := by decide +kernel
theorem d11_law_556 : decode code 556 = .ok (.invokevirtual 48, 3) := by decide +kernel
theorem d11_law_559 : decode code 559 = .ok (.if_icmp .eq 1533, 3) := by decide +kernel
theorem d11_law_562 : decode code 562 = .ok (.iconst 0, 1) := by decide +kernel
theorem d11_law_563 : decode code 563 = .ok (.ireturn, 1) := by decide +kernel
theorem d11_law_564 : decode code 564 = .ok (.aload_n 1, 1) := by decide +kernel
theorem d11_law_565 : decode code 565 = .ok (.aload_n 0, 1) := by decide +kernel
theorem d11_law_566 : decode code 566 = .ok (.iload_n 3, 1) := by decide +kernel
theorem d11_law_567 : decode code 567 = .ok (.iconst 1, 1) := by decide +kernel
theorem d11_law_568 : decode code 568 = .ok (.iadd, 1) := by decide +kernel
theorem d11_law_569 : decode code 569 = .ok (.iaload, 1) := by decide +kernel
theorem d11_law_570 : decode code 570 = .ok (.invokevirtual 49, 3) := by decide +kernel
theorem d11_law_573 : decode code 573 = .ok (.aload_n 2, 1) := by decide +kernel
theorem d11_law_574 : decode code 574 = .ok (.aload_n 0, 1) := by decide +kernel
theorem d11_law_575 : decode code 575 = .ok (.iload_n 3, 1) := by decide +kernel
theorem d11_law_576 : decode code 576 = .ok (.iconst 1, 1) := by decide +kernel
theorem d11_law_577 : decode code 577 = .ok (.iadd, 1) := by decide +kernel
theorem d11_law_578 : decode code 578 = .ok (.iaload, 1) := by decide +kernel
theorem d11_law_579 : decode code 579 = .ok (.invokevirtual 52, 3) := by decide +kernel
theorem d11_law_582 : decode code 582 = .ok (.if_icmp .eq 1510, 3) := by decide +kernel
theorem d11_law_585 : decode code 585 = .ok (.iconst 0, 1) := by decide +kernel
theorem d11_law_586 : decode code 586 = .ok (.ireturn, 1) := by decide +kernel
theorem d11_law_587 : decode code 587 = .ok (.aload_n 1, 1) := by decide +kernel
theorem d11_law_588 : decode code 588 = .ok (.aload_n 0, 1) := by decide +kernel
theorem d11_law_589 : decode code 589 = .ok (.iload_n 3, 1) := by decide +kernel
theorem d11_law_590 : decode code 590 = .ok (.iconst 1, 1) := by decide +kernel
theorem d11_law_591 : decode code 591 = .ok (.iadd, 1) := by decide +kernel
theorem d11_law_592 : decode code 592 = .ok (.iaload, 1) := by decide +kernel
theorem d11_law_593 : decode code 593 = .ok (.invokevirtual 53, 3) := by decide +kernel
theorem d11_law_596 : decode code 596 = .ok (.aload_n 2, 1) := by decide +kernel
theorem d11_law_597 : decode code 597 = .ok (.aload_n 0, 1) := by decide +kernel
theorem d11_law_598 : decode code 598 = .ok (.iload_n 3, 1) := by decide +kernel
theorem d11_law_599 : decode code 599 = .ok (.iconst 1, 1) := by decide +kernel
theorem d11_law_600 : decode code 600 = .ok (.iadd, 1) := by decide +kernel
theorem d11_law_601 : decode code 601 = .ok (.iaload, 1) := by decide +kernel
theorem d11_law_602 : decode code 602 = .ok (.invokevirtual 56, 3) := by decide +kernel
theorem d11_law_605 : decode code 605 = .ok (.if_icmp .eq 1487, 3) := by decide +kernel
theorem d11_law_608 : decode code 608 = .ok (.iconst 0, 1) := by decide +kernel
theorem d11_law_609 : decode code 609 = .ok (.ireturn, 1) := by decide +kernel
theorem d11_law_610 : decode code 610 = .ok (.aload_n 1, 1) := by decide +kernel
theorem d11_law_611 : decode code 611 = .ok (.aload_n 0, 1) := by decide +kernel
theorem d11_law_612 : decode code 612 = .ok (.iload_n 3, 1) := by decide +kernel
theorem d11_law_613 : decode code 613 = .ok (.iconst 1, 1) := by decide +kernel
theorem d11_law_614 : decode code 614 = .ok (.iadd, 1) := by decide +kernel
theorem d11_law_615 : decode code 615 = .ok (.iaload, 1) := by decide +kernel
theorem d11_law_616 : decode code 616 = .ok (.invokevirtual 57, 3) := by decide +kernel
theorem d11_law_619 : decode code 619 = .ok (.aload_n 2, 1) := by decide +kernel
theorem d11_law_620 : decode code 620 = .ok (.aload_n 0, 1) := by decide +kernel
theorem d11_law_621 : decode code 621 = .ok (.iload_n 3, 1) := by decide +kernel
theorem d11_law_622 : decode code 622 = .ok (.iconst 1, 1) := by decide +kernel
theorem d11_law_623 : decode code 623 = .ok (.iadd, 1) := by decide +kernel
theorem d11_law_624 : decode code 624 = .ok (.iaload, 1) := by decide +kernel
theorem d11_law_625 : decode code 625 = .ok (.invokevirtual 60, 3) := by decide +kernel
theorem d11_law_628 : decode code 628 = .ok (.if_icmp .eq 1464, 3) := by decide +kernel
theorem d11_law_631 : decode code 631 = .ok (.iconst 0, 1) := by decide +kernel
theorem d11_law_632 : decode code 632 = .ok (.ireturn, 1) := by decide +kernel
theorem d11_law_633 : decode code 633 = .ok (.aload_n 1, 1) := by decide +kernel
theorem d11_law_634 : decode code 634 = .ok (.invokevirtual 61, 3) := by decide +kernel
theorem d11_law_637 : decode code 637 = .ok (.aload_n 2, 1) := by decide +kernel
theorem d11_law_638 : decode code 638 = .ok (.invokevirtual 64, 3) := by decide +kernel
theorem d11_law_641 : decode code 641 = .ok (.if_icmp .eq 1451, 3) := by decide +kernel
theorem d11_law_644 : decode code 644 = .ok (.iconst 0, 1) := by decide +kernel
theorem d11_law_645 : decode code 645 = .ok (.ireturn, 1) := by decide +kernel
theorem d11_law_646 : decode code 646 = .ok (.aload_n 1, 1) := by decide +kernel
theorem d11_law_647 : decode code 647 = .ok (.invokevirtual 65, 3) := by decide +kernel
theorem d11_law_650 : decode code 650 = .ok (.aload_n 2, 1) := by decide +kernel
theorem d11_law_651 : decode code 651 = .ok (.invokevirtual 68, 3) := by decide +kernel
theorem d11_law_654 : decode code 654 = .ok (.if_icmp .eq 1438, 3) := by decide +kernel
theorem d11_law_657 : decode code 657 = .ok (.iconst 0, 1) := by decide +kernel
theorem d11_law_658 : decode code 658 = .ok (.ireturn, 1) := by decide +kernel
theorem d11_law_659 : decode code 659 = .ok (.aload_n 1, 1) := by decide +kernel
theorem d11_law_660 : decode code 660 = .ok (.invokevirtual 69, 3) := by decide +kernel
theorem d11_law_663 : decode code 663 = .ok (.aload_n 2, 1) := by decide +kernel
theorem d11_law_664 : decode code 664 = .ok (.invokevirtual 72, 3) := by decide +kernel
theorem d11_law_667 : decode code 667 = .ok (.if_icmp .eq 1425, 3) := by decide +kernel
theorem d11_law_670 : decode code 670 = .ok (.iconst 0, 1) := by decide +kernel
theorem d11_law_671 : decode code 671 = .ok (.ireturn, 1) := by decide +kernel
theorem d11_law_672 : decode code 672 = .ok (.aload_n 1, 1) := by decide +kernel
theorem d11_law_673 : decode code 673 = .ok (.aload_n 0, 1) := by decide +kernel
theorem d11_law_674 : decode code 674 = .ok (.iload_n 3, 1) := by decide +kernel
theorem d11_law_675 : decode code 675 = .ok (.iconst 1, 1) := by decide +kernel
theorem d11_law_676 : decode code 676 = .ok (.iadd, 1) := by decide +kernel
theorem d11_law_677 : decode code 677 = .ok (.iaload, 1) := by decide +kernel
theorem d11_law_678 : decode code 678 = .ok (.invokevirtual 73, 3) := by decide +kernel
theorem d11_law_681 : decode code 681 = .ok (.aload_n 2, 1) := by decide +kernel
theorem d11_law_682 : decode code 682 = .ok (.aload_n 0, 1) := by decide +kernel
theorem d11_law_683 : decode code 683 = .ok (.iload_n 3, 1) := by decide +kernel
theorem d11_law_684 : decode code 684 = .ok (.iconst 1, 1) := by decide +kernel
theorem d11_law_685 : decode code 685 = .ok (.iadd, 1) := by decide +kernel
theorem d11_law_686 : decode code 686 = .ok (.iaload, 1) := by decide +kernel
theorem d11_law_687 : decode code 687 = .ok (.invokevirtual 76, 3) := by decide +kernel
theorem d11_law_690 : decode code 690 = .ok (.if_icmp .eq 1402, 3) := by decide +kernel
theorem d11_law_693 : decode code 693 = .ok (.iconst 0, 1) := by decide +kernel
theorem d11_law_694 : decode code 694 = .ok (.ireturn, 1) := by decide +kernel
theorem d11_law_695 : decode code 695 = .ok (.aload_n 1, 1) := by decide +kernel
theorem d11_law_696 : decode code 696 = .ok (.aload_n 0, 1) := by decide +kernel
theorem d11_law_697 : decode code 697 = .ok (.iload_n 3, 1) := by decide +kernel
theorem d11_law_698 : decode code 698 = .ok (.iconst 1, 1) := by decide +kernel
theorem d11_law_699 : decode code 699 = .ok (.iadd, 1) := by decide +kernel
theorem d11_law_700 : decode code 700 = .ok (.iaload, 1) := by decide +kernel
theorem d11_law_701 : decode code 701 = .ok (.invokevirtual 77, 3) := by decide +kernel
theorem d11_law_704 : decode code 704 = .ok (.aload_n 2, 1) := by decide +kernel
theorem d11_law_705 : decode code 705 = .ok (.aload_n 0, 1) := by decide +kernel
theorem d11_law_706 : decode code 706 = .ok (.iload_n 3, 1) := by decide +kernel
theorem d11_law_707 : decode code 707 = .ok (.iconst 1, 1) := by decide +kernel
theorem d11_law_708 : decode code 708 = .ok (.iadd, 1) := by decide +kernel
theorem d11_law_709 : decode code 709 = .ok (.iaload, 1) := by decide +kernel
theorem d11_law_710 : decode code 710 = .ok (.invokevirtual 80, 3) := by decide +kernel
theorem d11_law_713 : decode code 713 = .ok (.if_icmp .eq 1379, 3) := by decide +kernel
theorem d11_law_716 : decode code 716 = .ok (.iconst 0, 1) := by decide +kernel
theorem d11_law_717 : decode code 717 = .ok (.ireturn, 1) := by decide +kernel
theorem d11_law_718 : decode code 718 = .ok (.aload_n 1, 1) := by decide +kernel
theorem d11_law_719 : decode code 719 = .ok (.invokevirtual 81, 3) := by decide +kernel
theorem d11_law_722 : decode code 722 = .ok (.aload_n 2, 1) := by decide +kernel
theorem d11_law_723 : decode code 723 = .ok (.invokevirtual 84, 3) := by decide +kernel
theorem d11_law_726 : decode code 726 = .ok (.if_icmp .eq 1366, 3) := by decide +kernel
theorem d11_law_729 : decode code 729 = .ok (.iconst 0, 1) := by decide +kernel
theorem d11_law_730 : decode code 730 = .ok (.ireturn, 1) := by decide +kernel
theorem d11_law_731 : decode code 731 = .ok (.aload_n 1, 1) := by decide +kernel
theorem d11_law_732 : decode code 732 = .ok (.invokevirtual 85, 3) := by decide +kernel
theorem d11_law_735 : decode code 735 = .ok (.aload_n 2, 1) := by decide +kernel
theorem d11_law_736 : decode code 736 = .ok (.invokevirtual 88, 3) := by decide +kernel
theorem d11_law_739 : decode code 739 = .ok (.if_icmp .eq 1353, 3) := by decide +kernel
theorem d11_law_742 : decode code 742 = .ok (.iconst 0, 1) := by decide +kernel
theorem d11_law_743 : decode code 743 = .ok (.ireturn, 1) := by decide +kernel
theorem d11_law_744 : decode code 744 = .ok (.aload_n 1, 1) := by decide +kernel
theorem d11_law_745 : decode code 745 = .ok (.invokevirtual 89, 3) := by decide +kernel
theorem d11_law_748 : decode code 748 = .ok (.aload_n 2, 1) := by decide +kernel
theorem d11_law_749 : decode code 749 = .ok (.invokevirtual 92, 3) := by decide +kernel
theorem d11_law_752 : decode code 752 = .ok (.if_icmp .eq 1340, 3) := by decide +kernel
theorem d11_law_755 : decode code 755 = .ok (.iconst 0, 1) := by decide +kernel
theorem d11_law_756 : decode code 756 = .ok (.ireturn, 1) := by decide +kernel
theorem d11_law_757 : decode code 757 = .ok (.aload_n 1, 1) := by decide +kernel
theorem d11_law_758 : decode code 758 = .ok (.invokevirtual 93, 3) := by decide +kernel
theorem d11_law_761 : decode code 761 = .ok (.aload_n 2, 1) := by decide +kernel
theorem d11_law_762 : decode code 762 = .ok (.invokevirtual 96, 3) := by decide +kernel
theorem d11_law_765 : decode code 765 = .ok (.if_icmp .eq 1327, 3) := by decide +kernel
theorem d11_law_768 : decode code 768 = .ok (.iconst 0, 1) := by decide +kernel
theorem d11_law_769 : decode code 769 = .ok (.ireturn, 1) := by decide +kernel
theorem d11_law_770 : decode code 770 = .ok (.aload_n 1, 1) := by decide +kernel
theorem d11_law_771 : decode code 771 = .ok (.invokevirtual 97, 3) := by decide +kernel
theorem d11_law_774 : decode code 774 = .ok (.aload_n 2, 1) := by decide +kernel
theorem d11_law_775 : decode code 775 = .ok (.invokevirtual 100, 3) := by decide +kernel
theorem d11_law_778 : decode code 778 = .ok (.if_icmp .eq 1314, 3) := by decide +kernel
theorem d11_law_781 : decode code 781 = .ok (.iconst 0, 1) := by decide +kernel
theorem d11_law_782 : decode code 782 = .ok (.ireturn, 1) := by decide +kernel
theorem d11_law_783 : decode code 783 = .ok (.aload_n 1, 1) := by decide +kernel
theorem d11_law_784 : decode code 784 = .ok (.aload_n 0, 1) := by decide +kernel
theorem d11_law_785 : decode code 785 = .ok (.iload_n 3, 1) := by decide +kernel
theorem d11_law_786 : decode code 786 = .ok (.iconst 1, 1) := by decide +kernel
theorem d11_law_787 : decode code 787 = .ok (.iadd, 1) := by decide +kernel
theorem d11_law_788 : decode code 788 = .ok (.iaload, 1) := by decide +kernel
theorem d11_law_789 : decode code 789 = .ok (.invokevirtual 101, 3) := by decide +kernel
theorem d11_law_792 : decode code 792 = .ok (.aload_n 2, 1) := by decide +kernel
theorem d11_law_793 : decode code 793 = .ok (.aload_n 0, 1) := by decide +kernel
theorem d11_law_794 : decode code 794 = .ok (.iload_n 3, 1) := by decide +kernel
theorem d11_law_795 : decode code 795 = .ok (.iconst 1, 1) := by decide +kernel
theorem d11_law_796 : decode code 796 = .ok (.iadd, 1) := by decide +kernel
theorem d11_law_797 : decode code 797 = .ok (.iaload, 1) := by decide +kernel
theorem d11_law_798 : decode code 798 = .ok (.invokevirtual 104, 3) := by decide +kernel
theorem d11_law_801 : decode code 801 = .ok (.if_icmp .eq 1291, 3) := by decide +kernel
theorem d11_law_804 : decode code 804 = .ok (.iconst 0, 1) := by decide +kernel
theorem d11_law_805 : decode code 805 = .ok (.ireturn, 1) := by decide +kernel
theorem d11_law_806 : decode code 806 = .ok (.aload_n 1, 1) := by decide +kernel
theorem d11_law_807 : decode code 807 = .ok (.aload_n 0, 1) := by decide +kernel
theorem d11_law_808 : decode code 808 = .ok (.iload_n 3, 1) := by decide +kernel
theorem d11_law_809 : decode code 809 = .ok (.iconst 1, 1) := by decide +kernel
theorem d11_law_810 : decode code 810 = .ok (.iadd, 1) := by decide +kernel
theorem d11_law_811 : decode code 811 = .ok (.iaload, 1) := by decide +kernel
theorem d11_law_812 : decode code 812 = .ok (.invokevirtual 105, 3) := by decide +kernel
theorem d11_law_815 : decode code 815 = .ok (.aload_n 2, 1) := by decide +kernel
theorem d11_law_816 : decode code 816 = .ok (.aload_n 0, 1) := by decide +kernel
theorem d11_law_817 : decode code 817 = .ok (.iload_n 3, 1) := by decide +kernel
theorem d11_law_818 : decode code 818 = .ok (.iconst 1, 1) := by decide +kernel
theorem d11_law_819 : decode code 819 = .ok (.iadd, 1) := by decide +kernel
theorem d11_law_820 : decode code 820 = .ok (.iaload, 1) := by decide +kernel
theorem d11_law_821 : decode code 821 = .ok (.invokevirtual 108, 3) := by decide +kernel
theorem d11_law_824 : decode code 824 = .ok (.if_icmp .eq 1268, 3) := by decide +kernel
theorem d11_law_827 : decode code 827 = .ok (.iconst 0, 1) := by decide +kernel
theorem d11_law_828 : decode code 828 = .ok (.ireturn, 1) := by decide +kernel
theorem d11_law_829 : decode code 829 = .ok (.aload_n 1, 1) := by decide +kernel
theorem d11_law_830 : decode code 830 = .ok (.invokevirtual 109, 3) := by decide +kernel
theorem d11_law_833 : decode code 833 = .ok (.aload_n 2, 1) := by decide +kernel
theorem d11_law_834 : decode code 834 = .ok (.invokevirtual 112, 3) := by decide +kernel
theorem d11_law_837 : decode code 837 = .ok (.if_icmp .eq 1255, 3) := by decide +kernel
theorem d11_law_840 : decode code 840 = .ok (.iconst 0, 1) := by decide +kernel
theorem d11_law_841 : decode code 841 = .ok (.ireturn, 1) := by decide +kernel
theorem d11_law_842 : decode code 842 = .ok (.aload_n 1, 1) := by decide +kernel
theorem d11_law_843 : decode code 843 = .ok (.aload_n 0, 1) := by decide +kernel
theorem d11_law_844 : decode code 844 = .ok (.iload_n 3, 1) := by decide +kernel
theorem d11_law_845 : decode code 845 = .ok (.iconst 1, 1) := by decide +kernel
theorem d11_law_846 : decode code 846 = .ok (.iadd, 1) := by decide +kernel
theorem d11_law_847 : decode code 847 = .ok (.iaload, 1) := by decide +kernel
theorem d11_law_848 : decode code 848 = .ok (.invokevirtual 113, 3) := by decide +kernel
theorem d11_law_851 : decode code 851 = .ok (.aload_n 2, 1) := by decide +kernel
theorem d11_law_852 : decode code 852 = .ok (.aload_n 0, 1) := by decide +kernel
theorem d11_law_853 : decode code 853 = .ok (.iload_n 3, 1) := by decide +kernel
theorem d11_law_854 : decode code 854 = .ok (.iconst 1, 1) := by decide +kernel
theorem d11_law_855 : decode code 855 = .ok (.iadd, 1) := by decide +kernel
theorem d11_law_856 : decode code 856 = .ok (.iaload, 1) := by decide +kernel
theorem d11_law_857 : decode code 857 = .ok (.invokevirtual 116, 3) := by decide +kernel
theorem d11_law_860 : decode code 860 = .ok (.if_icmp .eq 1232, 3) := by decide +kernel
theorem d11_law_863 : decode code 863 = .ok (.iconst 0, 1) := by decide +kernel
theorem d11_law_864 : decode code 864 = .ok (.ireturn, 1) := by decide +kernel
theorem d11_law_865 : decode code 865 = .ok (.aload_n 1, 1) := by decide +kernel
theorem d11_law_866 : decode code 866 = .ok (.aload_n 0, 1) := by decide +kernel
theorem d11_law_867 : decode code 867 = .ok (.iload_n 3, 1) := by decide +kernel
theorem d11_law_868 : decode code 868 = .ok (.iconst 1, 1) := by decide +kernel
theorem d11_law_869 : decode code 869 = .ok (.iadd, 1) := by decide +kernel
theorem d11_law_870 : decode code 870 = .ok (.iaload, 1) := by decide +kernel
theorem d11_law_871 : decode code 871 = .ok (.invokevirtual 117, 3) := by decide +kernel
theorem d11_law_874 : decode code 874 = .ok (.aload_n 2, 1) := by decide +kernel
theorem d11_law_875 : decode code 875 = .ok (.aload_n 0, 1) := by decide +kernel
theorem d11_law_876 : decode code 876 = .ok (.iload_n 3, 1) := by decide +kernel
theorem d11_law_877 : decode code 877 = .ok (.iconst 1, 1) := by decide +kernel
theorem d11_law_878 : decode code 878 = .ok (.iadd, 1) := by decide +kernel
theorem d11_law_879 : decode code 879 = .ok (.iaload, 1) := by decide +kernel
theorem d11_law_880 : decode code 880 = .ok (.invokevirtual 120, 3) := by decide +kernel
theorem d11_law_883 : decode code 883 = .ok (.if_icmp .eq 1209, 3) := by decide +kernel
theorem d11_law_886 : decode code 886 = .ok (.iconst 0, 1) := by decide +kernel
theorem d11_law_887 : decode code 887 = .ok (.ireturn, 1) := by decide +kernel
theorem d11_law_888 : decode code 888 = .ok (.aload_n 1, 1) := by decide +kernel
theorem d11_law_889 : decode code 889 = .ok (.aload_n 0, 1) := by decide +kernel
theorem d11_law_890 : decode code 890 = .ok (.iload_n 3, 1) := by decide +kernel
theorem d11_law_891 : decode code 891 = .ok (.iconst 1, 1) := by decide +kernel
theorem d11_law_892 : decode code 892 = .ok (.iadd, 1) := by decide +kernel
theorem d11_law_893 : decode code 893 = .ok (.iaload, 1) := by decide +kernel
theorem d11_law_894 : decode code 894 = .ok (.invokevirtual 121, 3) := by decide +kernel
theorem d11_law_897 : decode code 897 = .ok (.aload_n 2, 1) := by decide +kernel
theorem d11_law_898 : decode code 898 = .ok (.aload_n 0, 1) := by decide +kernel
theorem d11_law_899 : decode code 899 = .ok (.iload_n 3, 1) := by decide +kernel
theorem d11_law_900 : decode code 900 = .ok (.iconst 1, 1) := by decide +kernel
theorem d11_law_901 : decode code 901 = .ok (.iadd, 1) := by decide +kernel
theorem d11_law_902 : decode code 902 = .ok (.iaload, 1) := by decide +kernel
theorem d11_law_903 : decode code 903 = .ok (.invokevirtual 124, 3) := by decide +kernel
theorem d11_law_906 : decode code 906 = .ok (.if_icmp .eq 1186, 3) := by decide +kernel
theorem d11_law_909 : decode code 909 = .ok (.iconst 0, 1) := by decide +kernel
theorem d11_law_910 : decode code 910 = .ok (.ireturn, 1) := by decide +kernel
theorem d11_law_911 : decode code 911 = .ok (.aload_n 1, 1) := by decide +kernel
theorem d11_law_912 : decode code 912 = .ok (.aload_n 0, 1) := by decide +kernel
theorem d11_law_913 : decode code 913 = .ok (.iload_n 3, 1) := by decide +kernel
theorem d11_law_914 : decode code 914 = .ok (.iconst 1, 1) := by decide +kernel
theorem d11_law_915 : decode code 915 = .ok (.iadd, 1) := by decide +kernel
theorem d11_law_916 : decode code 916 = .ok (.iaload, 1) := by decide +kernel
theorem d11_law_917 : decode code 917 = .ok (.invokevirtual 125, 3) := by decide +kernel
theorem d11_law_920 : decode code 920 = .ok (.aload_n 2, 1) := by decide +kernel
theorem d11_law_921 : decode code 921 = .ok (.aload_n 0, 1) := by decide +kernel
theorem d11_law_922 : decode code 922 = .ok (.iload_n 3, 1) := by decide +kernel
theorem d11_law_923 : decode code 923 = .ok (.iconst 1, 1) := by decide +kernel
theorem d11_law_924 : decode code 924 = .ok (.iadd, 1) := by decide +kernel
theorem d11_law_925 : decode code 925 = .ok (.iaload, 1) := by decide +kernel
theorem d11_law_926 : decode code 926 = .ok (.invokevirtual 128, 3) := by decide +kernel
theorem d11_law_929 : decode code 929 = .ok (.if_icmp .eq 1163, 3) := by decide +kernel
theorem d11_law_932 : decode code 932 = .ok (.iconst 0, 1) := by decide +kernel
theorem d11_law_933 : decode code 933 = .ok (.ireturn, 1) := by decide +kernel
theorem d11_law_934 : decode code 934 = .ok (.aload_n 1, 1) := by decide +kernel
theorem d11_law_935 : decode code 935 = .ok (.aload_n 0, 1) := by decide +kernel
theorem d11_law_936 : decode code 936 = .ok (.iload_n 3, 1) := by decide +kernel
theorem d11_law_937 : decode code 937 = .ok (.iconst 1, 1) := by decide +kernel
theorem d11_law_938 : decode code 938 = .ok (.iadd, 1) := by decide +kernel
theorem d11_law_939 : decode code 939 = .ok (.iaload, 1) := by decide +kernel
theorem d11_law_940 : decode code 940 = .ok (.aload_n 0, 1) := by decide +kernel
theorem d11_law_941 : decode code 941 = .ok (.iload_n 3, 1) := by decide +kernel
theorem d11_law_942 : decode code 942 = .ok (.iconst 2, 1) := by decide +kernel
theorem d11_law_943 : decode code 943 = .ok (.iadd, 1) := by decide +kernel
theorem d11_law_944 : decode code 944 = .ok (.iaload, 1) := by decide +kernel
theorem d11_law_945 : decode code 945 = .ok (.invokevirtual 129, 3) := by decide +kernel
theorem d11_law_948 : decode code 948 = .ok (.aload_n 2, 1) := by decide +kernel
theorem d11_law_949 : decode code 949 = .ok (.aload_n 0, 1) := by decide +kernel
theorem d11_law_950 : decode code 950 = .ok (.iload_n 3, 1) := by decide +kernel
theorem d11_law_951 : decode code 951 = .ok (.iconst 1, 1) := by decide +kernel
theorem d11_law_952 : decode code 952 = .ok (.iadd, 1) := by decide +kernel
theorem d11_law_953 : decode code 953 = .ok (.iaload, 1) := by decide +kernel
theorem d11_law_954 : decode code 954 = .ok (.aload_n 0, 1) := by decide +kernel
theorem d11_law_955 : decode code 955 = .ok (.iload_n 3, 1) := by decide +kernel
theorem d11_law_956 : decode code 956 = .ok (.iconst 2, 1) := by decide +kernel
theorem d11_law_957 : decode code 957 = .ok (.iadd, 1) := by decide +kernel
theorem d11_law_958 : decode code 958 = .ok (.iaload, 1) := by decide +kernel
theorem d11_law_959 : decode code 959 = .ok (.invokevirtual 132, 3) := by decide +kernel
theorem d11_law_962 : decode code 962 = .ok (.if_icmp .eq 1130, 3) := by decide +kernel
theorem d11_law_965 : decode code 965 = .ok (.iconst 0, 1) := by decide +kernel
theorem d11_law_966 : decode code 966 = .ok (.ireturn, 1) := by decide +kernel
theorem d11_law_967 : decode code 967 = .ok (.aload_n 1, 1) := by decide +kernel
theorem d11_law_968 : decode code 968 = .ok (.invokevirtual 133, 3) := by decide +kernel
theorem d11_law_971 : decode code 971 = .ok (.aload_n 2, 1) := by decide +kernel
theorem d11_law_972 : decode code 972 = .ok (.invokevirtual 136, 3) := by decide +kernel
theorem d11_law_975 : decode code 975 = .ok (.if_icmp .eq 1117, 3) := by decide +kernel
theorem d11_law_978 : decode code 978 = .ok (.iconst 0, 1) := by decide +kernel
theorem d11_law_979 : decode code 979 = .ok (.ireturn, 1) := by decide +kernel
theorem d11_law_980 : decode code 980 = .ok (.aload_n 1, 1) := by decide +kernel
theorem d11_law_981 : decode code 981 = .ok (.aload_n 0, 1) := by decide +kernel
theorem d11_law_982 : decode code 982 = .ok (.iload_n 3, 1) := by decide +kernel
theorem d11_law_983 : decode code 983 = .ok (.iconst 1, 1) := by decide +kernel
theorem d11_law_984 : decode code 984 = .ok (.iadd, 1) := by decide +kernel
theorem d11_law_985 : decode code 985 = .ok (.iaload, 1) := by decide +kernel
theorem d11_law_986 : decode code 986 = .ok (.invokevirtual 137, 3) := by decide +kernel
theorem d11_law_989 : decode code 989 = .ok (.aload_n 2, 1) := by decide +kernel
theorem d11_law_990 : decode code 990 = .ok (.aload_n 0, 1) := by decide +kernel
theorem d11_law_991 : decode code 991 = .ok (.iload_n 3, 1) := by decide +kernel
theorem d11_law_992 : decode code 992 = .ok (.iconst 1, 1) := by decide +kernel
theorem d11_law_993 : decode code 993 = .ok (.iadd, 1) := by decide +kernel
theorem d11_law_994 : decode code 994 = .ok (.iaload, 1) := by decide +kernel
theorem d11_law_995 : decode code 995 = .ok (.invokevirtual 140, 3) := by decide +kernel
theorem d11_law_998 : decode code 998 = .ok (.if_icmp .eq 1094, 3) := by decide +kernel
theorem d11_law_1001 : decode code 1001 = .ok (.iconst 0, 1) := by decide +kernel
theorem d11_law_1002 : decode code 1002 = .ok (.ireturn, 1) := by decide +kernel
theorem d11_law_1003 : decode code 1003 = .ok (.aload_n 1, 1) := by decide +kernel
theorem d11_law_1004 : decode code 1004 = .ok (.invokevirtual 141, 3) := by decide +kernel
theorem d11_law_1007 : decode code 1007 = .ok (.aload_n 2, 1) := by decide +kernel
theorem d11_law_1008 : decode code 1008 = .ok (.invokevirtual 144, 3) := by decide +kernel
theorem d11_law_1011 : decode code 1011 = .ok (.if_icmp .eq 1081, 3) := by decide +kernel
theorem d11_law_1014 : decode code 1014 = .ok (.iconst 0, 1) := by decide +kernel
theorem d11_law_1015 : decode code 1015 = .ok (.ireturn, 1) := by decide +kernel
theorem d11_law_1016 : decode code 1016 = .ok (.aload_n 1, 1) := by decide +kernel
theorem d11_law_1017 : decode code 1017 = .ok (.invokevirtual 145, 3) := by decide +kernel
theorem d11_law_1020 : decode code 1020 = .ok (.aload_n 2, 1) := by decide +kernel
theorem d11_law_1021 : decode code 1021 = .ok (.invokevirtual 148, 3) := by decide +kernel
theorem d11_law_1024 : decode code 1024 = .ok (.if_icmp .eq 1068, 3) := by decide +kernel
theorem d11_law_1027 : decode code 1027 = .ok (.iconst 0, 1) := by decide +kernel
theorem d11_law_1028 : decode code 1028 = .ok (.ireturn, 1) := by decide +kernel
theorem d11_law_1029 : decode code 1029 = .ok (.aload_n 1, 1) := by decide +kernel
theorem d11_law_1030 : decode code 1030 = .ok (.invokevirtual 149, 3) := by decide +kernel
theorem d11_law_1033 : decode code 1033 = .ok (.aload_n 2, 1) := by decide +kernel
theorem d11_law_1034 : decode code 1034 = .ok (.invokevirtual 152, 3) := by decide +kernel
theorem d11_law_1037 : decode code 1037 = .ok (.if_icmp .eq 1055, 3) := by decide +kernel
theorem d11_law_1040 : decode code 1040 = .ok (.iconst 0, 1) := by decide +kernel
theorem d11_law_1041 : decode code 1041 = .ok (.ireturn, 1) := by decide +kernel
theorem d11_law_1042 : decode code 1042 = .ok (.aload_n 1, 1) := by decide +kernel
theorem d11_law_1043 : decode code 1043 = .ok (.aload_n 0, 1) := by decide +kernel
theorem d11_law_1044 : decode code 1044 = .ok (.iload_n 3, 1) := by decide +kernel
theorem d11_law_1045 : decode code 1045 = .ok (.iconst 1, 1) := by decide +kernel
theorem d11_law_1046 : decode code 1046 = .ok (.iadd, 1) := by decide +kernel
theorem d11_law_1047 : decode code 1047 = .ok (.iaload, 1) := by decide +kernel
theorem d11_law_1048 : decode code 1048 = .ok (.invokevirtual 153, 3) := by decide +kernel
theorem d11_law_1051 : decode code 1051 = .ok (.aload_n 2, 1) := by decide +kernel
theorem d11_law_1052 : decode code 1052 = .ok (.aload_n 0, 1) := by decide +kernel
theorem d11_law_1053 : decode code 1053 = .ok (.iload_n 3, 1) := by decide +kernel
theorem d11_law_1054 : decode code 1054 = .ok (.iconst 1, 1) := by decide +kernel
theorem d11_law_1055 : decode code 1055 = .ok (.iadd, 1) := by decide +kernel
theorem d11_law_1056 : decode code 1056 = .ok (.iaload, 1) := by decide +kernel
theorem d11_law_1057 : decode code 1057 = .ok (.invokevirtual 156, 3) := by decide +kernel
theorem d11_law_1060 : decode code 1060 = .ok (.if_icmp .eq 1032, 3) := by decide +kernel
theorem d11_law_1063 : decode code 1063 = .ok (.iconst 0, 1) := by decide +kernel
theorem d11_law_1064 : decode code 1064 = .ok (.ireturn, 1) := by decide +kernel
theorem d11_law_1065 : decode code 1065 = .ok (.aload_n 1, 1) := by decide +kernel
theorem d11_law_1066 : decode code 1066 = .ok (.invokevirtual 157, 3) := by decide +kernel
theorem d11_law_1069 : decode code 1069 = .ok (.aload_n 2, 1) := by decide +kernel
theorem d11_law_1070 : decode code 1070 = .ok (.invokevirtual 160, 3) := by decide +kernel
theorem d11_law_1073 : decode code 1073 = .ok (.if_icmp .eq 1019, 3) := by decide +kernel
theorem d11_law_1076 : decode code 1076 = .ok (.iconst 0, 1) := by decide +kernel
theorem d11_law_1077 : decode code 1077 = .ok (.ireturn, 1) := by decide +kernel
theorem d11_law_1078 : decode code 1078 = .ok (.aload_n 1, 1) := by decide +kernel
theorem d11_law_1079 : decode code 1079 = .ok (.aload_n 0, 1) := by decide +kernel
theorem d11_law_1080 : decode code 1080 = .ok (.iload_n 3, 1) := by decide +kernel
theorem d11_law_1081 : decode code 1081 = .ok (.iconst 1, 1) := by decide +kernel
theorem d11_law_1082 : decode code 1082 = .ok (.iadd, 1) := by decide +kernel
theorem d11_law_1083 : decode code 1083 = .ok (.iaload, 1) := by decide +kernel
theorem d11_law_1084 : decode code 1084 = .ok (.invokevirtual 161, 3) := by decide +kernel
theorem d11_law_1087 : decode code 1087 = .ok (.aload_n 2, 1) := by decide +kernel
theorem d11_law_1088 : decode code 1088 = .ok (.aload_n 0, 1) := by decide +kernel
theorem d11_law_1089 : decode code 1089 = .ok (.iload_n 3, 1) := by decide +kernel
theorem d11_law_1090 : decode code 1090 = .ok (.iconst 1, 1) := by decide +kernel
theorem d11_law_1091 : decode code 1091 = .ok (.iadd, 1) := by decide +kernel
theorem d11_law_1092 : decode code 1092 = .ok (.iaload, 1) := by decide +kernel
theorem d11_law_1093 : decode code 1093 = .ok (.invokevirtual 164, 3) := by decide +kernel
theorem d11_law_1096 : decode code 1096 = .ok (.if_icmp .eq 996, 3) := by decide +kernel
theorem d11_law_1099 : decode code 1099 = .ok (.iconst 0, 1) := by decide +kernel
theorem d11_law_1100 : decode code 1100 = .ok (.ireturn, 1) := by decide +kernel
theorem d11_law_1101 : decode code 1101 = .ok (.aload_n 1, 1) := by decide +kernel
theorem d11_law_1102 : decode code 1102 = .ok (.invokevirtual 165, 3) := by decide +kernel
theorem d11_law_1105 : decode code 1105 = .ok (.aload_n 2, 1) := by decide +kernel
theorem d11_law_1106 : decode code 1106 = .ok (.invokevirtual 169, 3) := by decide +kernel
theorem d11_law_1109 : decode code 1109 = .ok (.lcmp, 1) := by decide +kernel
theorem d11_law_1110 : decode code 1110 = .ok (.ifCond .eq 982, 3) := by decide +kernel
theorem d11_law_1113 : decode code 1113 = .ok (.iconst 0, 1) := by decide +kernel
theorem d11_law_1114 : decode code 1114 = .ok (.ireturn, 1) := by decide +kernel
theorem d11_law_1115 : decode code 1115 = .ok (.aload_n 1, 1) := by decide +kernel
theorem d11_law_1116 : decode code 1116 = .ok (.aload_n 0, 1) := by decide +kernel
theorem d11_law_1117 : decode code 1117 = .ok (.iload_n 3, 1) := by decide +kernel
theorem d11_law_1118 : decode code 1118 = .ok (.iconst 1, 1) := by decide +kernel
theorem d11_law_1119 : decode code 1119 = .ok (.iadd, 1) := by decide +kernel
theorem d11_law_1120 : decode code 1120 = .ok (.iaload, 1) := by decide +kernel
theorem d11_law_1121 : decode code 1121 = .ok (.invokevirtual 170, 3) := by decide +kernel
theorem d11_law_1124 : decode code 1124 = .ok (.aload_n 2, 1) := by decide +kernel
theorem d11_law_1125 : decode code 1125 = .ok (.aload_n 0, 1) := by decide +kernel
theorem d11_law_1126 : decode code 1126 = .ok (.iload_n 3, 1) := by decide +kernel
theorem d11_law_1127 : decode code 1127 = .ok (.iconst 1, 1) := by decide +kernel
theorem d11_law_1128 : decode code 1128 = .ok (.iadd, 1) := by decide +kernel
theorem d11_law_1129 : decode code 1129 = .ok (.iaload, 1) := by decide +kernel
theorem d11_law_1130 : decode code 1130 = .ok (.invokevirtual 173, 3) := by decide +kernel
theorem d11_law_1133 : decode code 1133 = .ok (.if_icmp .eq 959, 3) := by decide +kernel
theorem d11_law_1136 : decode code 1136 = .ok (.iconst 0, 1) := by decide +kernel
theorem d11_law_1137 : decode code 1137 = .ok (.ireturn, 1) := by decide +kernel
theorem d11_law_1138 : decode code 1138 = .ok (.aload_n 1, 1) := by decide +kernel
theorem d11_law_1139 : decode code 1139 = .ok (.aload_n 0, 1) := by decide +kernel
theorem d11_law_1140 : decode code 1140 = .ok (.iload_n 3, 1) := by decide +kernel
theorem d11_law_1141 : decode code 1141 = .ok (.iconst 1, 1) := by decide +kernel
theorem d11_law_1142 : decode code 1142 = .ok (.iadd, 1) := by decide +kernel
theorem d11_law_1143 : decode code 1143 = .ok (.iaload, 1) := by decide +kernel
theorem d11_law_1144 : decode code 1144 = .ok (.invokevirtual 174, 3) := by decide +kernel
theorem d11_law_1147 : decode code 1147 = .ok (.aload_n 2, 1) := by decide +kernel
theorem d11_law_1148 : decode code 1148 = .ok (.aload_n 0, 1) := by decide +kernel
theorem d11_law_1149 : decode code 1149 = .ok (.iload_n 3, 1) := by decide +kernel
theorem d11_law_1150 : decode code 1150 = .ok (.iconst 1, 1) := by decide +kernel
theorem d11_law_1151 : decode code 1151 = .ok (.iadd, 1) := by decide +kernel
theorem d11_law_1152 : decode code 1152 = .ok (.iaload, 1) := by decide +kernel
theorem d11_law_1153 : decode code 1153 = .ok (.invokevirtual 177, 3) := by decide +kernel
theorem d11_law_1156 : decode code 1156 = .ok (.if_icmp .eq 936, 3) := by decide +kernel
theorem d11_law_1159 : decode code 1159 = .ok (.iconst 0, 1) := by decide +kernel
theorem d11_law_1160 : decode code 1160 = .ok (.ireturn, 1) := by decide +kernel
theorem d11_law_1161 : decode code 1161 = .ok (.aload_n 1, 1) := by decide +kernel
theorem d11_law_1162 : decode code 1162 = .ok (.invokevirtual 178, 3) := by decide +kernel
theorem d11_law_1165 : decode code 1165 = .ok (.aload_n 2, 1) := by decide +kernel
theorem d11_law_1166 : decode code 1166 = .ok (.invokevirtual 181, 3) := by decide +kernel
theorem d11_law_1169 : decode code 1169 = .ok (.if_icmp .eq 923, 3) := by decide +kernel
theorem d11_law_1172 : decode code 1172 = .ok (.iconst 0, 1) := by decide +kernel
theorem d11_law_1173 : decode code 1173 = .ok (.ireturn, 1) := by decide +kernel
theorem d11_law_1174 : decode code 1174 = .ok (.aload_n 1, 1) := by decide +kernel
theorem d11_law_1175 : decode code 1175 = .ok (.aload_n 0, 1) := by decide +kernel
theorem d11_law_1176 : decode code 1176 = .ok (.iload_n 3, 1) := by decide +kernel
theorem d11_law_1177 : decode code 1177 = .ok (.iconst 1, 1) := by decide +kernel
theorem d11_law_1178 : decode code 1178 = .ok (.iadd, 1) := by decide +kernel
theorem d11_law_1179 : decode code 1179 = .ok (.iaload, 1) := by decide +kernel
theorem d11_law_1180 : decode code 1180 = .ok (.invokevirtual 182, 3) := by decide +kernel
theorem d11_law_1183 : decode code 1183 = .ok (.aload_n 2, 1) := by decide +kernel
theorem d11_law_1184 : decode code 1184 = .ok (.aload_n 0, 1) := by decide +kernel
theorem d11_law_1185 : decode code 1185 = .ok (.iload_n 3, 1) := by decide +kernel
theorem d11_law_1186 : decode code 1186 = .ok (.iconst 1, 1) := by decide +kernel
theorem d11_law_1187 : decode code 1187 = .ok (.iadd, 1) := by decide +kernel
theorem d11_law_1188 : decode code 1188 = .ok (.iaload, 1) := by decide +kernel
theorem d11_law_1189 : decode code 1189 = .ok (.invokevirtual 185, 3) := by decide +kernel
theorem d11_law_1192 : decode code 1192 = .ok (.if_icmp .eq 900, 3) := by decide +kernel
theorem d11_law_1195 : decode code 1195 = .ok (.iconst 0, 1) := by decide +kernel
theorem d11_law_1196 : decode code 1196 = .ok (.ireturn, 1) := by decide +kernel
theorem d11_law_1197 : decode code 1197 = .ok (.aload_n 1, 1) := by decide +kernel
theorem d11_law_1198 : decode code 1198 = .ok (.aload_n 0, 1) := by decide +kernel
theorem d11_law_1199 : decode code 1199 = .ok (.iload_n 3, 1) := by decide +kernel
theorem d11_law_1200 : decode code 1200 = .ok (.iconst 1, 1) := by decide +kernel
theorem d11_law_1201 : decode code 1201 = .ok (.iadd, 1) := by decide +kernel
theorem d11_law_1202 : decode code 1202 = .ok (.iaload, 1) := by decide +kernel
theorem d11_law_1203 : decode code 1203 = .ok (.invokevirtual 186, 3) := by decide +kernel
theorem d11_law_1206 : decode code 1206 = .ok (.aload_n 2, 1) := by decide +kernel
theorem d11_law_1207 : decode code 1207 = .ok (.aload_n 0, 1) := by decide +kernel
theorem d11_law_1208 : decode code 1208 = .ok (.iload_n 3, 1) := by decide +kernel
theorem d11_law_1209 : decode code 1209 = .ok (.iconst 1, 1) := by decide +kernel
theorem d11_law_1210 : decode code 1210 = .ok (.iadd, 1) := by decide +kernel
theorem d11_law_1211 : decode code 1211 = .ok (.iaload, 1) := by decide +kernel
theorem d11_law_1212 : decode code 1212 = .ok (.invokevirtual 189, 3) := by decide +kernel
theorem d11_law_1215 : decode code 1215 = .ok (.if_icmp .eq 877, 3) := by decide +kernel
theorem d11_law_1218 : decode code 1218 = .ok (.iconst 0, 1) := by decide +kernel
theorem d11_law_1219 : decode code 1219 = .ok (.ireturn, 1) := by decide +kernel
theorem d11_law_1220 : decode code 1220 = .ok (.aload_n 1, 1) := by decide +kernel
theorem d11_law_1221 : decode code 1221 = .ok (.invokevirtual 190, 3) := by decide +kernel
theorem d11_law_1224 : decode code 1224 = .ok (.aload_n 2, 1) := by decide +kernel
theorem d11_law_1225 : decode code 1225 = .ok (.invokevirtual 193, 3) := by decide +kernel
theorem d11_law_1228 : decode code 1228 = .ok (.if_icmp .eq 864, 3) := by decide +kernel
theorem d11_law_1231 : decode code 1231 = .ok (.iconst 0, 1) := by decide +kernel
theorem d11_law_1232 : decode code 1232 = .ok (.ireturn, 1) := by decide +kernel
theorem d11_law_1233 : decode code 1233 = .ok (.aload_n 1, 1) := by decide +kernel
theorem d11_law_1234 : decode code 1234 = .ok (.invokevirtual 194, 3) := by decide +kernel
theorem d11_law_1237 : decode code 1237 = .ok (.aload_n 2, 1) := by decide +kernel
theorem d11_law_1238 : decode code 1238 = .ok (.invokevirtual 197, 3) := by decide +kernel
theorem d11_law_1241 : decode code 1241 = .ok (.if_icmp .eq 851, 3) := by decide +kernel
theorem d11_law_1244 : decode code 1244 = .ok (.iconst 0, 1) := by decide +kernel
theorem d11_law_1245 : decode code 1245 = .ok (.ireturn, 1) := by decide +kernel
theorem d11_law_1246 : decode code 1246 = .ok (.aload_n 1, 1) := by decide +kernel
theorem d11_law_1247 : decode code 1247 = .ok (.aload_n 0, 1) := by decide +kernel
theorem d11_law_1248 : decode code 1248 = .ok (.iload_n 3, 1) := by decide +kernel
theorem d11_law_1249 : decode code 1249 = .ok (.iconst 1, 1) := by decide +kernel
theorem d11_law_1250 : decode code 1250 = .ok (.iadd, 1) := by decide +kernel
theorem d11_law_1251 : decode code 1251 = .ok (.iaload, 1) := by decide +kernel
theorem d11_law_1252 : decode code 1252 = .ok (.invokevirtual 198, 3) := by decide +kernel
theorem d11_law_1255 : decode code 1255 = .ok (.aload_n 2, 1) := by decide +kernel
theorem d11_law_1256 : decode code 1256 = .ok (.aload_n 0, 1) := by decide +kernel
theorem d11_law_1257 : decode code 1257 = .ok (.iload_n 3, 1) := by decide +kernel
theorem d11_law_1258 : decode code 1258 = .ok (.iconst 1, 1) := by decide +kernel
theorem d11_law_1259 : decode code 1259 = .ok (.iadd, 1) := by decide +kernel
theorem d11_law_1260 : decode code 1260 = .ok (.iaload, 1) := by decide +kernel
theorem d11_law_1261 : decode code 1261 = .ok (.invokevirtual 201, 3) := by decide +kernel
theorem d11_law_1264 : decode code 1264 = .ok (.if_icmp .eq 828, 3) := by decide +kernel
theorem d11_law_1267 : decode code 1267 = .ok (.iconst 0, 1) := by decide +kernel
theorem d11_law_1268 : decode code 1268 = .ok (.ireturn, 1) := by decide +kernel
theorem d11_law_1269 : decode code 1269 = .ok (.aload_n 1, 1) := by decide +kernel
theorem d11_law_1270 : decode code 1270 = .ok (.aload_n 0, 1) := by decide +kernel
theorem d11_law_1271 : decode code 1271 = .ok (.iload_n 3, 1) := by decide +kernel
theorem d11_law_1272 : decode code 1272 = .ok (.iconst 1, 1) := by decide +kernel
theorem d11_law_1273 : decode code 1273 = .ok (.iadd, 1) := by decide +kernel
theorem d11_law_1274 : decode code 1274 = .ok (.iaload, 1) := by decide +kernel
theorem d11_law_1275 : decode code 1275 = .ok (.invokevirtual 202, 3) := by decide +kernel
theorem d11_law_1278 : decode code 1278 = .ok (.aload_n 2, 1) := by decide +kernel
theorem d11_law_1279 : decode code 1279 = .ok (.aload_n 0, 1) := by decide +kernel
theorem d11_law_1280 : decode code 1280 = .ok (.iload_n 3, 1) := by decide +kernel
theorem d11_law_1281 : decode code 1281 = .ok (.iconst 1, 1) := by decide +kernel
theorem d11_law_1282 : decode code 1282 = .ok (.iadd, 1) := by decide +kernel
theorem d11_law_1283 : decode code 1283 = .ok (.iaload, 1) := by decide +kernel
theorem d11_law_1284 : decode code 1284 = .ok (.invokevirtual 205, 3) := by decide +kernel
theorem d11_law_1287 : decode code 1287 = .ok (.if_icmp .eq 805, 3) := by decide +kernel
theorem d11_law_1290 : decode code 1290 = .ok (.iconst 0, 1) := by decide +kernel
theorem d11_law_1291 : decode code 1291 = .ok (.ireturn, 1) := by decide +kernel
theorem d11_law_1292 : decode code 1292 = .ok (.aload_n 1, 1) := by decide +kernel
theorem d11_law_1293 : decode code 1293 = .ok (.aload_n 0, 1) := by decide +kernel
theorem d11_law_1294 : decode code 1294 = .ok (.iload_n 3, 1) := by decide +kernel
theorem d11_law_1295 : decode code 1295 = .ok (.iconst 1, 1) := by decide +kernel
theorem d11_law_1296 : decode code 1296 = .ok (.iadd, 1) := by decide +kernel
theorem d11_law_1297 : decode code 1297 = .ok (.iaload, 1) := by decide +kernel
theorem d11_law_1298 : decode code 1298 = .ok (.invokevirtual 206, 3) := by decide +kernel
theorem d11_law_1301 : decode code 1301 = .ok (.aload_n 2, 1) := by decide +kernel
theorem d11_law_1302 : decode code 1302 = .ok (.aload_n 0, 1) := by decide +kernel
theorem d11_law_1303 : decode code 1303 = .ok (.iload_n 3, 1) := by decide +kernel
theorem d11_law_1304 : decode code 1304 = .ok (.iconst 1, 1) := by decide +kernel
theorem d11_law_1305 : decode code 1305 = .ok (.iadd, 1) := by decide +kernel
theorem d11_law_1306 : decode code 1306 = .ok (.iaload, 1) := by decide +kernel
theorem d11_law_1307 : decode code 1307 = .ok (.invokevirtual 209, 3) := by decide +kernel
theorem d11_law_1310 : decode code 1310 = .ok (.if_icmp .eq 782, 3) := by decide +kernel
theorem d11_law_1313 : decode code 1313 = .ok (.iconst 0, 1) := by decide +kernel
theorem d11_law_1314 : decode code 1314 = .ok (.ireturn, 1) := by decide +kernel
theorem d11_law_1315 : decode code 1315 = .ok (.aload_n 1, 1) := by decide +kernel
theorem d11_law_1316 : decode code 1316 = .ok (.aload_n 0, 1) := by decide +kernel
theorem d11_law_1317 : decode code 1317 = .ok (.iload_n 3, 1) := by decide +kernel
theorem d11_law_1318 : decode code 1318 = .ok (.iconst 1, 1) := by decide +kernel
theorem d11_law_1319 : decode code 1319 = .ok (.iadd, 1) := by decide +kernel
theorem d11_law_1320 : decode code 1320 = .ok (.iaload, 1) := by decide +kernel
theorem d11_law_1321 : decode code 1321 = .ok (.invokevirtual 210, 3) := by decide +kernel
theorem d11_law_1324 : decode code 1324 = .ok (.aload_n 2, 1) := by decide +kernel
theorem d11_law_1325 : decode code 1325 = .ok (.aload_n 0, 1) := by decide +kernel
theorem d11_law_1326 : decode code 1326 = .ok (.iload_n 3, 1) := by decide +kernel
theorem d11_law_1327 : decode code 1327 = .ok (.iconst 1, 1) := by decide +kernel
theorem d11_law_1328 : decode code 1328 = .ok (.iadd, 1) := by decide +kernel
theorem d11_law_1329 : decode code 1329 = .ok (.iaload, 1) := by decide +kernel
theorem d11_law_1330 : decode code 1330 = .ok (.invokevirtual 213, 3) := by decide +kernel
theorem d11_law_1333 : decode code 1333 = .ok (.if_icmp .eq 759, 3) := by decide +kernel
theorem d11_law_1336 : decode code 1336 = .ok (.iconst 0, 1) := by decide +kernel
theorem d11_law_1337 : decode code 1337 = .ok (.ireturn, 1) := by decide +kernel
theorem d11_law_1338 : decode code 1338 = .ok (.aload_n 1, 1) := by decide +kernel
theorem d11_law_1339 : decode code 1339 = .ok (.aload_n 0, 1) := by decide +kernel
theorem d11_law_1340 : decode code 1340 = .ok (.iload_n 3, 1) := by decide +kernel
theorem d11_law_1341 : decode code 1341 = .ok (.iconst 1, 1) := by decide +kernel
theorem d11_law_1342 : decode code 1342 = .ok (.iadd, 1) := by decide +kernel
theorem d11_law_1343 : decode code 1343 = .ok (.iaload, 1) := by decide +kernel
theorem d11_law_1344 : decode code 1344 = .ok (.invokevirtual 214, 3) := by decide +kernel
theorem d11_law_1347 : decode code 1347 = .ok (.aload_n 2, 1) := by decide +kernel
theorem d11_law_1348 : decode code 1348 = .ok (.aload_n 0, 1) := by decide +kernel
theorem d11_law_1349 : decode code 1349 = .ok (.iload_n 3, 1) := by decide +kernel
theorem d11_law_1350 : decode code 1350 = .ok (.iconst 1, 1) := by decide +kernel
theorem d11_law_1351 : decode code 1351 = .ok (.iadd, 1) := by decide +kernel
theorem d11_law_1352 : decode code 1352 = .ok (.iaload, 1) := by decide +kernel
theorem d11_law_1353 : decode code 1353 = .ok (.invokevirtual 217, 3) := by decide +kernel
theorem d11_law_1356 : decode code 1356 = .ok (.if_icmp .eq 736, 3) := by decide +kernel
theorem d11_law_1359 : decode code 1359 = .ok (.iconst 0, 1) := by decide +kernel
theorem d11_law_1360 : decode code 1360 = .ok (.ireturn, 1) := by decide +kernel
theorem d11_law_1361 : decode code 1361 = .ok (.aload_n 1, 1) := by decide +kernel
theorem d11_law_1362 : decode code 1362 = .ok (.aload_n 0, 1) := by decide +kernel
theorem d11_law_1363 : decode code 1363 = .ok (.iload_n 3, 1) := by decide +kernel
theorem d11_law_1364 : decode code 1364 = .ok (.iconst 1, 1) := by decide +kernel
theorem d11_law_1365 : decode code 1365 = .ok (.iadd, 1) := by decide +kernel
theorem d11_law_1366 : decode code 1366 = .ok (.iaload, 1) := by decide +kernel
theorem d11_law_1367 : decode code 1367 = .ok (.invokevirtual 218, 3) := by decide +kernel
theorem d11_law_1370 : decode code 1370 = .ok (.aload_n 2, 1) := by decide +kernel
theorem d11_law_1371 : decode code 1371 = .ok (.aload_n 0, 1) := by decide +kernel
theorem d11_law_1372 : decode code 1372 = .ok (.iload_n 3, 1) := by decide +kernel
theorem d11_law_1373 : decode code 1373 = .ok (.iconst 1, 1) := by decide +kernel
theorem d11_law_1374 : decode code 1374 = .ok (.iadd, 1) := by decide +kernel
theorem d11_law_1375 : decode code 1375 = .ok (.iaload, 1) := by decide +kernel
theorem d11_law_1376 : decode code 1376 = .ok (.invokevirtual 221, 3) := by decide +kernel
theorem d11_law_1379 : decode code 1379 = .ok (.if_icmp .eq 713, 3) := by decide +kernel
theorem d11_law_1382 : decode code 1382 = .ok (.iconst 0, 1) := by decide +kernel
theorem d11_law_1383 : decode code 1383 = .ok (.ireturn, 1) := by decide +kernel
theorem d11_law_1384 : decode code 1384 = .ok (.aload_n 1, 1) := by decide +kernel
theorem d11_law_1385 : decode code 1385 = .ok (.aload_n 0, 1) := by decide +kernel
theorem d11_law_1386 : decode code 1386 = .ok (.iload_n 3, 1) := by decide +kernel
theorem d11_law_1387 : decode code 1387 = .ok (.iconst 1, 1) := by decide +kernel
theorem d11_law_1388 : decode code 1388 = .ok (.iadd, 1) := by decide +kernel
theorem d11_law_1389 : decode code 1389 = .ok (.iaload, 1) := by decide +kernel
theorem d11_law_1390 : decode code 1390 = .ok (.invokevirtual 222, 3) := by decide +kernel
theorem d11_law_1393 : decode code 1393 = .ok (.aload_n 2, 1) := by decide +kernel
theorem d11_law_1394 : decode code 1394 = .ok (.aload_n 0, 1) := by decide +kernel
theorem d11_law_1395 : decode code 1395 = .ok (.iload_n 3, 1) := by decide +kernel
theorem d11_law_1396 : decode code 1396 = .ok (.iconst 1, 1) := by decide +kernel
theorem d11_law_1397 : decode code 1397 = .ok (.iadd, 1) := by decide +kernel
theorem d11_law_1398 : decode code 1398 = .ok (.iaload, 1) := by decide +kernel
theorem d11_law_1399 : decode code 1399 = .ok (.invokevirtual 225, 3) := by decide +kernel
theorem d11_law_1402 : decode code 1402 = .ok (.if_icmp .eq 690, 3) := by decide +kernel
theorem d11_law_1405 : decode code 1405 = .ok (.iconst 0, 1) := by decide +kernel
theorem d11_law_1406 : decode code 1406 = .ok (.ireturn, 1) := by decide +kernel
theorem d11_law_1407 : decode code 1407 = .ok (.aload_n 1, 1) := by decide +kernel
theorem d11_law_1408 : decode code 1408 = .ok (.aload_n 0, 1) := by decide +kernel
theorem d11_law_1409 : decode code 1409 = .ok (.iload_n 3, 1) := by decide +kernel
theorem d11_law_1410 : decode code 1410 = .ok (.iconst 1, 1) := by decide +kernel
theorem d11_law_1411 : decode code 1411 = .ok (.iadd, 1) := by decide +kernel
theorem d11_law_1412 : decode code 1412 = .ok (.iaload, 1) := by decide +kernel
theorem d11_law_1413 : decode code 1413 = .ok (.invokevirtual 226, 3) := by decide +kernel
theorem d11_law_1416 : decode code 1416 = .ok (.aload_n 2, 1) := by decide +kernel
theorem d11_law_1417 : decode code 1417 = .ok (.aload_n 0, 1) := by decide +kernel
theorem d11_law_1418 : decode code 1418 = .ok (.iload_n 3, 1) := by decide +kernel
theorem d11_law_1419 : decode code 1419 = .ok (.iconst 1, 1) := by decide +kernel
theorem d11_law_1420 : decode code 1420 = .ok (.iadd, 1) := by decide +kernel
theorem d11_law_1421 : decode code 1421 = .ok (.iaload, 1) := by decide +kernel
theorem d11_law_1422 : decode code 1422 = .ok (.invokevirtual 229, 3) := by decide +kernel
theorem d11_law_1425 : decode code 1425 = .ok (.if_icmp .eq 667, 3) := by decide +kernel
theorem d11_law_1428 : decode code 1428 = .ok (.iconst 0, 1) := by decide +kernel
theorem d11_law_1429 : decode code 1429 = .ok (.ireturn, 1) := by decide +kernel
theorem d11_law_1430 : decode code 1430 = .ok (.aload_n 1, 1) := by decide +kernel
theorem d11_law_1431 : decode code 1431 = .ok (.aload_n 0, 1) := by decide +kernel
theorem d11_law_1432 : decode code 1432 = .ok (.iload_n 3, 1) := by decide +kernel
theorem d11_law_1433 : decode code 1433 = .ok (.iconst 1, 1) := by decide +kernel
theorem d11_law_1434 : decode code 1434 = .ok (.iadd, 1) := by decide +kernel
theorem d11_law_1435 : decode code 1435 = .ok (.iaload, 1) := by decide +kernel
theorem d11_law_1436 : decode code 1436 = .ok (.invokevirtual 230, 3) := by decide +kernel
theorem d11_law_1439 : decode code 1439 = .ok (.aload_n 2, 1) := by decide +kernel
theorem d11_law_1440 : decode code 1440 = .ok (.aload_n 0, 1) := by decide +kernel
theorem d11_law_1441 : decode code 1441 = .ok (.iload_n 3, 1) := by decide +kernel
theorem d11_law_1442 : decode code 1442 = .ok (.iconst 1, 1) := by decide +kernel
theorem d11_law_1443 : decode code 1443 = .ok (.iadd, 1) := by decide +kernel
theorem d11_law_1444 : decode code 1444 = .ok (.iaload, 1) := by decide +kernel
theorem d11_law_1445 : decode code 1445 = .ok (.invokevirtual 233, 3) := by decide +kernel
theorem d11_law_1448 : decode code 1448 = .ok (.if_icmp .eq 644, 3) := by decide +kernel
theorem d11_law_1451 : decode code 1451 = .ok (.iconst 0, 1) := by decide +kernel
theorem d11_law_1452 : decode code 1452 = .ok (.ireturn, 1) := by decide +kernel
theorem d11_law_1453 : decode code 1453 = .ok (.aload_n 1, 1) := by decide +kernel
theorem d11_law_1454 : decode code 1454 = .ok (.aload_n 0, 1) := by decide +kernel
theorem d11_law_1455 : decode code 1455 = .ok (.iload_n 3, 1) := by decide +kernel
theorem d11_law_1456 : decode code 1456 = .ok (.iconst 1, 1) := by decide +kernel
theorem d11_law_1457 : decode code 1457 = .ok (.iadd, 1) := by decide +kernel
theorem d11_law_1458 : decode code 1458 = .ok (.iaload, 1) := by decide +kernel
theorem d11_law_1459 : decode code 1459 = .ok (.aload_n 0, 1) := by decide +kernel
theorem d11_law_1460 : decode code 1460 = .ok (.iload_n 3, 1) := by decide +kernel
theorem d11_law_1461 : decode code 1461 = .ok (.iconst 2, 1) := by decide +kernel
theorem d11_law_1462 : decode code 1462 = .ok (.iadd, 1) := by decide +kernel
theorem d11_law_1463 : decode code 1463 = .ok (.iaload, 1) := by decide +kernel
theorem d11_law_1464 : decode code 1464 = .ok (.invokevirtual 234, 3) := by decide +kernel
theorem d11_law_1467 : decode code 1467 = .ok (.aload_n 2, 1) := by decide +kernel
theorem d11_law_1468 : decode code 1468 = .ok (.aload_n 0, 1) := by decide +kernel
theorem d11_law_1469 : decode code 1469 = .ok (.iload_n 3, 1) := by decide +kernel
theorem d11_law_1470 : decode code 1470 = .ok (.iconst 1, 1) := by decide +kernel
theorem d11_law_1471 : decode code 1471 = .ok (.iadd, 1) := by decide +kernel
theorem d11_law_1472 : decode code 1472 = .ok (.iaload, 1) := by decide +kernel
theorem d11_law_1473 : decode code 1473 = .ok (.aload_n 0, 1) := by decide +kernel
theorem d11_law_1474 : decode code 1474 = .ok (.iload_n 3, 1) := by decide +kernel
theorem d11_law_1475 : decode code 1475 = .ok (.iconst 2, 1) := by decide +kernel
theorem d11_law_1476 : decode code 1476 = .ok (.iadd, 1) := by decide +kernel
theorem d11_law_1477 : decode code 1477 = .ok (.iaload, 1) := by decide +kernel
theorem d11_law_1478 : decode code 1478 = .ok (.invokevirtual 237, 3) := by decide +kernel
theorem d11_law_1481 : decode code 1481 = .ok (.if_icmp .eq 611, 3) := by decide +kernel
theorem d11_law_1484 : decode code 1484 = .ok (.iconst 0, 1) := by decide +kernel
theorem d11_law_1485 : decode code 1485 = .ok (.ireturn, 1) := by decide +kernel
theorem d11_law_1486 : decode code 1486 = .ok (.aload_n 1, 1) := by decide +kernel
theorem d11_law_1487 : decode code 1487 = .ok (.aload_n 0, 1) := by decide +kernel
theorem d11_law_1488 : decode code 1488 = .ok (.iload_n 3, 1) := by decide +kernel
theorem d11_law_1489 : decode code 1489 = .ok (.iconst 1, 1) := by decide +kernel
theorem d11_law_1490 : decode code 1490 = .ok (.iadd, 1) := by decide +kernel
theorem d11_law_1491 : decode code 1491 = .ok (.iaload, 1) := by decide +kernel
theorem d11_law_1492 : decode code 1492 = .ok (.aload_n 0, 1) := by decide +kernel
theorem d11_law_1493 : decode code 1493 = .ok (.iload_n 3, 1) := by decide +kernel
theorem d11_law_1494 : decode code 1494 = .ok (.iconst 2, 1) := by decide +kernel
theorem d11_law_1495 : decode code 1495 = .ok (.iadd, 1) := by decide +kernel
theorem d11_law_1496 : decode code 1496 = .ok (.iaload, 1) := by decide +kernel
theorem d11_law_1497 : decode code 1497 = .ok (.invokevirtual 238, 3) := by decide +kernel
theorem d11_law_1500 : decode code 1500 = .ok (.aload_n 2, 1) := by decide +kernel
theorem d11_law_1501 : decode code 1501 = .ok (.aload_n 0, 1) := by decide +kernel
theorem d11_law_1502 : decode code 1502 = .ok (.iload_n 3, 1) := by decide +kernel
theorem d11_law_1503 : decode code 1503 = .ok (.iconst 1, 1) := by decide +kernel
theorem d11_law_1504 : decode code 1504 = .ok (.iadd, 1) := by decide +kernel
theorem d11_law_1505 : decode code 1505 = .ok (.iaload, 1) := by decide +kernel
theorem d11_law_1506 : decode code 1506 = .ok (.aload_n 0, 1) := by decide +kernel
theorem d11_law_1507 : decode code 1507 = .ok (.iload_n 3, 1) := by decide +kernel
theorem d11_law_1508 : decode code 1508 = .ok (.iconst 2, 1) := by decide +kernel
theorem d11_law_1509 : decode code 1509 = .ok (.iadd, 1) := by decide +kernel
theorem d11_law_1510 : decode code 1510 = .ok (.iaload, 1) := by decide +kernel
theorem d11_law_1511 : decode code 1511 = .ok (.invokevirtual 241, 3) := by decide +kernel
theorem d11_law_1514 : decode code 1514 = .ok (.if_icmp .eq 578, 3) := by decide +kernel
theorem d11_law_1517 : decode code 1517 = .ok (.iconst 0, 1) := by decide +kernel
theorem d11_law_1518 : decode code 1518 = .ok (.ireturn, 1) := by decide +kernel
theorem d11_law_1519 : decode code 1519 = .ok (.aload_n 1, 1) := by decide +kernel
theorem d11_law_1520 : decode code 1520 = .ok (.aload_n 0, 1) := by decide +kernel
theorem d11_law_1521 : decode code 1521 = .ok (.iload_n 3, 1) := by decide +kernel
theorem d11_law_1522 : decode code 1522 = .ok (.iconst 1, 1) := by decide +kernel
theorem d11_law_1523 : decode code 1523 = .ok (.iadd, 1) := by decide +kernel
theorem d11_law_1524 : decode code 1524 = .ok (.iaload, 1) := by decide +kernel
theorem d11_law_1525 : decode code 1525 = .ok (.aload_n 0, 1) := by decide +kernel
theorem d11_law_1526 : decode code 1526 = .ok (.iload_n 3, 1) := by decide +kernel
theorem d11_law_1527 : decode code 1527 = .ok (.iconst 2, 1) := by decide +kernel
theorem d11_law_1528 : decode code 1528 = .ok (.iadd, 1) := by decide +kernel
theorem d11_law_1529 : decode code 1529 = .ok (.iaload, 1) := by decide +kernel
theorem d11_law_1530 : decode code 1530 = .ok (.aload_n 0, 1) := by decide +kernel
theorem d11_law_1531 : decode code 1531 = .ok (.iload_n 3, 1) := by decide +kernel
theorem d11_law_1532 : decode code 1532 = .ok (.iconst 3, 1) := by decide +kernel
theorem d11_law_1533 : decode code 1533 = .ok (.iadd, 1) := by decide +kernel
theorem d11_law_1534 : decode code 1534 = .ok (.iaload, 1) := by decide +kernel
theorem d11_law_1535 : decode code 1535 = .ok (.aload_n 0, 1) := by decide +kernel
theorem d11_law_1536 : decode code 1536 = .ok (.iload_n 3, 1) := by decide +kernel
theorem d11_law_1537 : decode code 1537 = .ok (.iconst 4, 1) := by decide +kernel
theorem d11_law_1538 : decode code 1538 = .ok (.iadd, 1) := by decide +kernel
theorem d11_law_1539 : decode code 1539 = .ok (.iaload, 1) := by decide +kernel
theorem d11_law_1540 : decode code 1540 = .ok (.invokevirtual 242, 3) := by decide +kernel
theorem d11_law_1543 : decode code 1543 = .ok (.aload_n 2, 1) := by decide +kernel
theorem d11_law_1544 : decode code 1544 = .ok (.aload_n 0, 1) := by decide +kernel
theorem d11_law_1545 : decode code 1545 = .ok (.iload_n 3, 1) := by decide +kernel
theorem d11_law_1546 : decode code 1546 = .ok (.iconst 1, 1) := by decide +kernel
theorem d11_law_1547 : decode code 1547 = .ok (.iadd, 1) := by decide +kernel
theorem d11_law_1548 : decode code 1548 = .ok (.iaload, 1) := by decide +kernel
theorem d11_law_1549 : decode code 1549 = .ok (.aload_n 0, 1) := by decide +kernel
theorem d11_law_1550 : decode code 1550 = .ok (.iload_n 3, 1) := by decide +kernel
theorem d11_law_1551 : decode code 1551 = .ok (.iconst 2, 1) := by decide +kernel
theorem d11_law_1552 : decode code 1552 = .ok (.iadd, 1) := by decide +kernel
theorem d11_law_1553 : decode code 1553 = .ok (.iaload, 1) := by decide +kernel
theorem d11_law_1554 : decode code 1554 = .ok (.aload_n 0, 1) := by decide +kernel
theorem d11_law_1555 : decode code 1555 = .ok (.iload_n 3, 1) := by decide +kernel
theorem d11_law_1556 : decode code 1556 = .ok (.iconst 3, 1) := by decide +kernel
theorem d11_law_1557 : decode code 1557 = .ok (.iadd, 1) := by decide +kernel
theorem d11_law_1558 : decode code 1558 = .ok (.iaload, 1) := by decide +kernel
theorem d11_law_1559 : decode code 1559 = .ok (.aload_n 0, 1) := by decide +kernel
theorem d11_law_1560 : decode code 1560 = .ok (.iload_n 3, 1) := by decide +kernel
theorem d11_law_1561 : decode code 1561 = .ok (.iconst 4, 1) := by decide +kernel
theorem d11_law_1562 : decode code 1562 = .ok (.iadd, 1) := by decide +kernel
theorem d11_law_1563 : decode code 1563 = .ok (.iaload, 1) := by decide +kernel
theorem d11_law_1564 : decode code 1564 = .ok (.invokevirtual 246, 3) := by decide +kernel
theorem d11_law_1567 : decode code 1567 = .ok (.if_icmp .eq 525, 3) := by decide +kernel
theorem d11_law_1570 : decode code 1570 = .ok (.iconst 0, 1) := by decide +kernel
theorem d11_law_1571 : decode code 1571 = .ok (.ireturn, 1) := by decide +kernel
theorem d11_law_1572 : decode code 1572 = .ok (.aload_n 1, 1) := by decide +kernel
theorem d11_law_1573 : decode code 1573 = .ok (.aload_n 0, 1) := by decide +kernel
theorem d11_law_1574 : decode code 1574 = .ok (.iload_n 3, 1) := by decide +kernel
theorem d11_law_1575 : decode code 1575 = .ok (.iconst 1, 1) := by decide +kernel
theorem d11_law_1576 : decode code 1576 = .ok (.iadd, 1) := by decide +kernel
theorem d11_law_1577 : decode code 1577 = .ok (.iaload, 1) := by decide +kernel
theorem d11_law_1578 : decode code 1578 = .ok (.aload_n 0, 1) := by decide +kernel
theorem d11_law_1579 : decode code 1579 = .ok (.iload_n 3, 1) := by decide +kernel
theorem d11_law_1580 : decode code 1580 = .ok (.iconst 2, 1) := by decide +kernel
theorem d11_law_1581 : decode code 1581 = .ok (.iadd, 1) := by decide +kernel
theorem d11_law_1582 : decode code 1582 = .ok (.iaload, 1) := by decide +kernel
theorem d11_law_1583 : decode code 1583 = .ok (.invokevirtual 247, 3) := by decide +kernel
theorem d11_law_1586 : decode code 1586 = .ok (.aload_n 2, 1) := by decide +kernel
theorem d11_law_1587 : decode code 1587 = .ok (.aload_n 0, 1) := by decide +kernel
theorem d11_law_1588 : decode code 1588 = .ok (.iload_n 3, 1) := by decide +kernel
theorem d11_law_1589 : decode code 1589 = .ok (.iconst 1, 1) := by decide +kernel
theorem d11_law_1590 : decode code 1590 = .ok (.iadd, 1) := by decide +kernel
theorem d11_law_1591 : decode code 1591 = .ok (.iaload, 1) := by decide +kernel
theorem d11_law_1592 : decode code 1592 = .ok (.aload_n 0, 1) := by decide +kernel
theorem d11_law_1593 : decode code 1593 = .ok (.iload_n 3, 1) := by decide +kernel
theorem d11_law_1594 : decode code 1594 = .ok (.iconst 2, 1) := by decide +kernel
theorem d11_law_1595 : decode code 1595 = .ok (.iadd, 1) := by decide +kernel
theorem d11_law_1596 : decode code 1596 = .ok (.iaload, 1) := by decide +kernel
theorem d11_law_1597 : decode code 1597 = .ok (.invokevirtual 251, 3) := by decide +kernel
theorem d11_law_1600 : decode code 1600 = .ok (.lcmp, 1) := by decide +kernel
theorem d11_law_1601 : decode code 1601 = .ok (.ifCond .eq 491, 3) := by decide +kernel
theorem d11_law_1604 : decode code 1604 = .ok (.iconst 0, 1) := by decide +kernel
theorem d11_law_1605 : decode code 1605 = .ok (.ireturn, 1) := by decide +kernel
theorem d11_law_1606 : decode code 1606 = .ok (.aload_n 1, 1) := by decide +kernel
theorem d11_law_1607 : decode code 1607 = .ok (.aload_n 0, 1) := by decide +kernel
theorem d11_law_1608 : decode code 1608 = .ok (.iload_n 3, 1) := by decide +kernel
theorem d11_law_1609 : decode code 1609 = .ok (.iconst 1, 1) := by decide +kernel
theorem d11_law_1610 : decode code 1610 = .ok (.iadd, 1) := by decide +kernel
theorem d11_law_1611 : decode code 1611 = .ok (.iaload, 1) := by decide +kernel
theorem d11_law_1612 : decode code 1612 = .ok (.invokevirtual 252, 3) := by decide +kernel
theorem d11_law_1615 : decode code 1615 = .ok (.aload_n 2, 1) := by decide +kernel
theorem d11_law_1616 : decode code 1616 = .ok (.aload_n 0, 1) := by decide +kernel
theorem d11_law_1617 : decode code 1617 = .ok (.iload_n 3, 1) := by decide +kernel
theorem d11_law_1618 : decode code 1618 = .ok (.iconst 1, 1) := by decide +kernel
theorem d11_law_1619 : decode code 1619 = .ok (.iadd, 1) := by decide +kernel
theorem d11_law_1620 : decode code 1620 = .ok (.iaload, 1) := by decide +kernel
theorem d11_law_1621 : decode code 1621 = .ok (.invokevirtual 256, 3) := by decide +kernel
theorem d11_law_1624 : decode code 1624 = .ok (.lcmp, 1) := by decide +kernel
theorem d11_law_1625 : decode code 1625 = .ok (.ifCond .eq 467, 3) := by decide +kernel
theorem d11_law_1628 : decode code 1628 = .ok (.iconst 0, 1) := by decide +kernel
theorem d11_law_1629 : decode code 1629 = .ok (.ireturn, 1) := by decide +kernel
theorem d11_law_1630 : decode code 1630 = .ok (.aload_n 1, 1) := by decide +kernel
theorem d11_law_1631 : decode code 1631 = .ok (.aload_n 0, 1) := by decide +kernel
theorem d11_law_1632 : decode code 1632 = .ok (.iload_n 3, 1) := by decide +kernel
theorem d11_law_1633 : decode code 1633 = .ok (.iconst 1, 1) := by decide +kernel
theorem d11_law_1634 : decode code 1634 = .ok (.iadd, 1) := by decide +kernel
theorem d11_law_1635 : decode code 1635 = .ok (.iaload, 1) := by decide +kernel
theorem d11_law_1636 : decode code 1636 = .ok (.invokevirtual 257, 3) := by decide +kernel
theorem d11_law_1639 : decode code 1639 = .ok (.aload_n 2, 1) := by decide +kernel
theorem d11_law_1640 : decode code 1640 = .ok (.aload_n 0, 1) := by decide +kernel
theorem d11_law_1641 : decode code 1641 = .ok (.iload_n 3, 1) := by decide +kernel
theorem d11_law_1642 : decode code 1642 = .ok (.iconst 1, 1) := by decide +kernel
theorem d11_law_1643 : decode code 1643 = .ok (.iadd, 1) := by decide +kernel
theorem d11_law_1644 : decode code 1644 = .ok (.iaload, 1) := by decide +kernel
theorem d11_law_1645 : decode code 1645 = .ok (.invokevirtual 260, 3) := by decide +kernel
theorem d11_law_1648 : decode code 1648 = .ok (.if_icmp .eq 444, 3) := by decide +kernel
theorem d11_law_1651 : decode code 1651 = .ok (.iconst 0, 1) := by decide +kernel
theorem d11_law_1652 : decode code 1652 = .ok (.ireturn, 1) := by decide +kernel
theorem d11_law_1653 : decode code 1653 = .ok (.aload_n 1, 1) := by decide +kernel
theorem d11_law_1654 : decode code 1654 = .ok (.aload_n 0, 1) := by decide +kernel
theorem d11_law_1655 : decode code 1655 = .ok (.iload_n 3, 1) := by decide +kernel
theorem d11_law_1656 : decode code 1656 = .ok (.iconst 1, 1) := by decide +kernel
theorem d11_law_1657 : decode code 1657 = .ok (.iadd, 1) := by decide +kernel
theorem d11_law_1658 : decode code 1658 = .ok (.iaload, 1) := by decide +kernel
theorem d11_law_1659 : decode code 1659 = .ok (.aload_n 0, 1) := by decide +kernel
theorem d11_law_1660 : decode code 1660 = .ok (.iload_n 3, 1) := by decide +kernel
theorem d11_law_1661 : decode code 1661 = .ok (.iconst 2, 1) := by decide +kernel
theorem d11_law_1662 : decode code 1662 = .ok (.iadd, 1) := by decide +kernel
theorem d11_law_1663 : decode code 1663 = .ok (.iaload, 1) := by decide +kernel
theorem d11_law_1664 : decode code 1664 = .ok (.invokevirtual 261, 3) := by decide +kernel
theorem d11_law_1667 : decode code 1667 = .ok (.aload_n 2, 1) := by decide +kernel
theorem d11_law_1668 : decode code 1668 = .ok (.aload_n 0, 1) := by decide +kernel
theorem d11_law_1669 : decode code 1669 = .ok (.iload_n 3, 1) := by decide +kernel
theorem d11_law_1670 : decode code 1670 = .ok (.iconst 1, 1) := by decide +kernel
theorem d11_law_1671 : decode code 1671 = .ok (.iadd, 1) := by decide +kernel
theorem d11_law_1672 : decode code 1672 = .ok (.iaload, 1) := by decide +kernel
theorem d11_law_1673 : decode code 1673 = .ok (.aload_n 0, 1) := by decide +kernel
theorem d11_law_1674 : decode code 1674 = .ok (.iload_n 3, 1) := by decide +kernel
theorem d11_law_1675 : decode code 1675 = .ok (.iconst 2, 1) := by decide +kernel
theorem d11_law_1676 : decode code 1676 = .ok (.iadd, 1) := by decide +kernel
theorem d11_law_1677 : decode code 1677 = .ok (.iaload, 1) := by decide +kernel
theorem d11_law_1678 : decode code 1678 = .ok (.invokevirtual 264, 3) := by decide +kernel
theorem d11_law_1681 : decode code 1681 = .ok (.if_icmp .eq 411, 3) := by decide +kernel
theorem d11_law_1684 : decode code 1684 = .ok (.iconst 0, 1) := by decide +kernel
theorem d11_law_1685 : decode code 1685 = .ok (.ireturn, 1) := by decide +kernel
theorem d11_law_1686 : decode code 1686 = .ok (.aload_n 1, 1) := by decide +kernel
theorem d11_law_1687 : decode code 1687 = .ok (.aload_n 0, 1) := by decide +kernel
theorem d11_law_1688 : decode code 1688 = .ok (.iload_n 3, 1) := by decide +kernel
theorem d11_law_1689 : decode code 1689 = .ok (.iconst 1, 1) := by decide +kernel
theorem d11_law_1690 : decode code 1690 = .ok (.iadd, 1) := by decide +kernel
theorem d11_law_1691 : decode code 1691 = .ok (.iaload, 1) := by decide +kernel
theorem d11_law_1692 : decode code 1692 = .ok (.aload_n 0, 1) := by decide +kernel
theorem d11_law_1693 : decode code 1693 = .ok (.iload_n 3, 1) := by decide +kernel
theorem d11_law_1694 : decode code 1694 = .ok (.iconst 2, 1) := by decide +kernel
theorem d11_law_1695 : decode code 1695 = .ok (.iadd, 1) := by decide +kernel
theorem d11_law_1696 : decode code 1696 = .ok (.iaload, 1) := by decide +kernel
theorem d11_law_1697 : decode code 1697 = .ok (.invokevirtual 265, 3) := by decide +kernel
theorem d11_law_1700 : decode code 1700 = .ok (.aload_n 2, 1) := by decide +kernel
theorem d11_law_1701 : decode code 1701 = .ok (.aload_n 0, 1) := by decide +kernel
theorem d11_law_1702 : decode code 1702 = .ok (.iload_n 3, 1) := by decide +kernel
theorem d11_law_1703 : decode code 1703 = .ok (.iconst 1, 1) := by decide +kernel
theorem d11_law_1704 : decode code 1704 = .ok (.iadd, 1) := by decide +kernel
theorem d11_law_1705 : decode code 1705 = .ok (.iaload, 1) := by decide +kernel
theorem d11_law_1706 : decode code 1706 = .ok (.aload_n 0, 1) := by decide +kernel
theorem d11_law_1707 : decode code 1707 = .ok (.iload_n 3, 1) := by decide +kernel
theorem d11_law_1708 : decode code 1708 = .ok (.iconst 2, 1) := by decide +kernel
theorem d11_law_1709 : decode code 1709 = .ok (.iadd, 1) := by decide +kernel
theorem d11_law_1710 : decode code 1710 = .ok (.iaload, 1) := by decide +kernel
theorem d11_law_1711 : decode code 1711 = .ok (.invokevirtual 268, 3) := by decide +kernel
theorem d11_law_1714 : decode code 1714 = .ok (.if_icmp .eq 378, 3) := by decide +kernel
theorem d11_law_1717 : decode code 1717 = .ok (.iconst 0, 1) := by decide +kernel
theorem d11_law_1718 : decode code 1718 = .ok (.ireturn, 1) := by decide +kernel
theorem d11_law_1719 : decode code 1719 = .ok (.aload_n 1, 1) := by decide +kernel
theorem d11_law_1720 : decode code 1720 = .ok (.invokevirtual 269, 3) := by decide +kernel
theorem d11_law_1723 : decode code 1723 = .ok (.aload_n 2, 1) := by decide +kernel
theorem d11_law_1724 : decode code 1724 = .ok (.invokevirtual 272, 3) := by decide +kernel
theorem d11_law_1727 : decode code 1727 = .ok (.if_icmp .eq 365, 3) := by decide +kernel
theorem d11_law_1730 : decode code 1730 = .ok (.iconst 0, 1) := by decide +kernel
theorem d11_law_1731 : decode code 1731 = .ok (.ireturn, 1) := by decide +kernel
theorem d11_law_1732 : decode code 1732 = .ok (.aload_n 1, 1) := by decide +kernel
theorem d11_law_1733 : decode code 1733 = .ok (.invokevirtual 273, 3) := by decide +kernel
theorem d11_law_1736 : decode code 1736 = .ok (.aload_n 2, 1) := by decide +kernel
theorem d11_law_1737 : decode code 1737 = .ok (.invokevirtual 276, 3) := by decide +kernel
theorem d11_law_1740 : decode code 1740 = .ok (.if_icmp .eq 352, 3) := by decide +kernel
theorem d11_law_1743 : decode code 1743 = .ok (.iconst 0, 1) := by decide +kernel
theorem d11_law_1744 : decode code 1744 = .ok (.ireturn, 1) := by decide +kernel
theorem d11_law_1745 : decode code 1745 = .ok (.aload_n 1, 1) := by decide +kernel
theorem d11_law_1746 : decode code 1746 = .ok (.aload_n 0, 1) := by decide +kernel
theorem d11_law_1747 : decode code 1747 = .ok (.iload_n 3, 1) := by decide +kernel
theorem d11_law_1748 : decode code 1748 = .ok (.iconst 1, 1) := by decide +kernel
theorem d11_law_1749 : decode code 1749 = .ok (.iadd, 1) := by decide +kernel
theorem d11_law_1750 : decode code 1750 = .ok (.iaload, 1) := by decide +kernel
theorem d11_law_1751 : decode code 1751 = .ok (.aload_n 0, 1) := by decide +kernel
theorem d11_law_1752 : decode code 1752 = .ok (.iload_n 3, 1) := by decide +kernel
theorem d11_law_1753 : decode code 1753 = .ok (.iconst 2, 1) := by decide +kernel
theorem d11_law_1754 : decode code 1754 = .ok (.iadd, 1) := by decide +kernel
theorem d11_law_1755 : decode code 1755 = .ok (.iaload, 1) := by decide +kernel
theorem d11_law_1756 : decode code 1756 = .ok (.invokevirtual 277, 3) := by decide +kernel
theorem d11_law_1759 : decode code 1759 = .ok (.aload_n 2, 1) := by decide +kernel
theorem d11_law_1760 : decode code 1760 = .ok (.aload_n 0, 1) := by decide +kernel
theorem d11_law_1761 : decode code 1761 = .ok (.iload_n 3, 1) := by decide +kernel
theorem d11_law_1762 : decode code 1762 = .ok (.iconst 1, 1) := by decide +kernel
theorem d11_law_1763 : decode code 1763 = .ok (.iadd, 1) := by decide +kernel
theorem d11_law_1764 : decode code 1764 = .ok (.iaload, 1) := by decide +kernel
theorem d11_law_1765 : decode code 1765 = .ok (.aload_n 0, 1) := by decide +kernel
theorem d11_law_1766 : decode code 1766 = .ok (.iload_n 3, 1) := by decide +kernel
theorem d11_law_1767 : decode code 1767 = .ok (.iconst 2, 1) := by decide +kernel
theorem d11_law_1768 : decode code 1768 = .ok (.iadd, 1) := by decide +kernel
theorem d11_law_1769 : decode code 1769 = .ok (.iaload, 1) := by decide +kernel
theorem d11_law_1770 : decode code 1770 = .ok (.invokevirtual 280, 3) := by decide +kernel
theorem d11_law_1773 : decode code 1773 = .ok (.if_icmp .eq 319, 3) := by decide +kernel
theorem d11_law_1776 : decode code 1776 = .ok (.iconst 0, 1) := by decide +kernel
theorem d11_law_1777 : decode code 1777 = .ok (.ireturn, 1) := by decide +kernel
theorem d11_law_1778 : decode code 1778 = .ok (.aload_n 1, 1) := by decide +kernel
theorem d11_law_1779 : decode code 1779 = .ok (.aload_n 0, 1) := by decide +kernel
theorem d11_law_1780 : decode code 1780 = .ok (.iload_n 3, 1) := by decide +kernel
theorem d11_law_1781 : decode code 1781 = .ok (.iconst 1, 1) := by decide +kernel
theorem d11_law_1782 : decode code 1782 = .ok (.iadd, 1) := by decide +kernel
theorem d11_law_1783 : decode code 1783 = .ok (.iaload, 1) := by decide +kernel
theorem d11_law_1784 : decode code 1784 = .ok (.aload_n 0, 1) := by decide +kernel
theorem d11_law_1785 : decode code 1785 = .ok (.iload_n 3, 1) := by decide +kernel
theorem d11_law_1786 : decode code 1786 = .ok (.iconst 2, 1) := by decide +kernel
theorem d11_law_1787 : decode code 1787 = .ok (.iadd, 1) := by decide +kernel
theorem d11_law_1788 : decode code 1788 = .ok (.iaload, 1) := by decide +kernel
theorem d11_law_1789 : decode code 1789 = .ok (.aload_n 0, 1) := by decide +kernel
theorem d11_law_1790 : decode code 1790 = .ok (.iload_n 3, 1) := by decide +kernel
theorem d11_law_1791 : decode code 1791 = .ok (.iconst 3, 1) := by decide +kernel
theorem d11_law_1792 : decode code 1792 = .ok (.iadd, 1) := by decide +kernel
theorem d11_law_1793 : decode code 1793 = .ok (.iaload, 1) := by decide +kernel
theorem d11_law_1794 : decode code 1794 = .ok (.invokevirtual 281, 3) := by decide +kernel
theorem d11_law_1797 : decode code 1797 = .ok (.aload_n 2, 1) := by decide +kernel
theorem d11_law_1798 : decode code 1798 = .ok (.aload_n 0, 1) := by decide +kernel
theorem d11_law_1799 : decode code 1799 = .ok (.iload_n 3, 1) := by decide +kernel
theorem d11_law_1800 : decode code 1800 = .ok (.iconst 1, 1) := by decide +kernel
theorem d11_law_1801 : decode code 1801 = .ok (.iadd, 1) := by decide +kernel
theorem d11_law_1802 : decode code 1802 = .ok (.iaload, 1) := by decide +kernel
theorem d11_law_1803 : decode code 1803 = .ok (.aload_n 0, 1) := by decide +kernel
theorem d11_law_1804 : decode code 1804 = .ok (.iload_n 3, 1) := by decide +kernel
theorem d11_law_1805 : decode code 1805 = .ok (.iconst 2, 1) := by decide +kernel
theorem d11_law_1806 : decode code 1806 = .ok (.iadd, 1) := by decide +kernel
theorem d11_law_1807 : decode code 1807 = .ok (.iaload, 1) := by decide +kernel
theorem d11_law_1808 : decode code 1808 = .ok (.aload_n 0, 1) := by decide +kernel
theorem d11_law_1809 : decode code 1809 = .ok (.iload_n 3, 1) := by decide +kernel
theorem d11_law_1810 : decode code 1810 = .ok (.iconst 3, 1) := by decide +kernel
theorem d11_law_1811 : decode code 1811 = .ok (.iadd, 1) := by decide +kernel
theorem d11_law_1812 : decode code 1812 = .ok (.iaload, 1) := by decide +kernel
theorem d11_law_1813 : decode code 1813 = .ok (.invokevirtual 285, 3) := by decide +kernel
theorem d11_law_1816 : decode code 1816 = .ok (.if_icmp .eq 276, 3) := by decide +kernel
theorem d11_law_1819 : decode code 1819 = .ok (.iconst 0, 1) := by decide +kernel
theorem d11_law_1820 : decode code 1820 = .ok (.ireturn, 1) := by decide +kernel
theorem d11_law_1821 : decode code 1821 = .ok (.aload_n 1, 1) := by decide +kernel
theorem d11_law_1822 : decode code 1822 = .ok (.aload_n 0, 1) := by decide +kernel
theorem d11_law_1823 : decode code 1823 = .ok (.iload_n 3, 1) := by decide +kernel
theorem d11_law_1824 : decode code 1824 = .ok (.iconst 1, 1) := by decide +kernel
theorem d11_law_1825 : decode code 1825 = .ok (.iadd, 1) := by decide +kernel
theorem d11_law_1826 : decode code 1826 = .ok (.iaload, 1) := by decide +kernel
theorem d11_law_1827 : decode code 1827 = .ok (.invokevirtual 286, 3) := by decide +kernel
theorem d11_law_1830 : decode code 1830 = .ok (.aload_n 2, 1) := by decide +kernel
theorem d11_law_1831 : decode code 1831 = .ok (.aload_n 0, 1) := by decide +kernel
theorem d11_law_1832 : decode code 1832 = .ok (.iload_n 3, 1) := by decide +kernel
theorem d11_law_1833 : decode code 1833 = .ok (.iconst 1, 1) := by decide +kernel
theorem d11_law_1834 : decode code 1834 = .ok (.iadd, 1) := by decide +kernel
theorem d11_law_1835 : decode code 1835 = .ok (.iaload, 1) := by decide +kernel
theorem d11_law_1836 : decode code 1836 = .ok (.invokevirtual 289, 3) := by decide +kernel
theorem d11_law_1839 : decode code 1839 = .ok (.if_icmp .eq 253, 3) := by decide +kernel
theorem d11_law_1842 : decode code 1842 = .ok (.iconst 0, 1) := by decide +kernel
theorem d11_law_1843 : decode code 1843 = .ok (.ireturn, 1) := by decide +kernel
theorem d11_law_1844 : decode code 1844 = .ok (.aload_n 1, 1) := by decide +kernel
theorem d11_law_1845 : decode code 1845 = .ok (.aload_n 0, 1) := by decide +kernel
theorem d11_law_1846 : decode code 1846 = .ok (.iload_n 3, 1) := by decide +kernel
theorem d11_law_1847 : decode code 1847 = .ok (.iconst 1, 1) := by decide +kernel
theorem d11_law_1848 : decode code 1848 = .ok (.iadd, 1) := by decide +kernel
theorem d11_law_1849 : decode code 1849 = .ok (.iaload, 1) := by decide +kernel
theorem d11_law_1850 : decode code 1850 = .ok (.invokevirtual 290, 3) := by decide +kernel
theorem d11_law_1853 : decode code 1853 = .ok (.aload_n 2, 1) := by decide +kernel
theorem d11_law_1854 : decode code 1854 = .ok (.aload_n 0, 1) := by decide +kernel
theorem d11_law_1855 : decode code 1855 = .ok (.iload_n 3, 1) := by decide +kernel
theorem d11_law_1856 : decode code 1856 = .ok (.iconst 1, 1) := by decide +kernel
theorem d11_law_1857 : decode code 1857 = .ok (.iadd, 1) := by decide +kernel
theorem d11_law_1858 : decode code 1858 = .ok (.iaload, 1) := by decide +kernel
theorem d11_law_1859 : decode code 1859 = .ok (.invokevirtual 293, 3) := by decide +kernel
theorem d11_law_1862 : decode code 1862 = .ok (.if_icmp .eq 230, 3) := by decide +kernel
theorem d11_law_1865 : decode code 1865 = .ok (.iconst 0, 1) := by decide +kernel
theorem d11_law_1866 : decode code 1866 = .ok (.ireturn, 1) := by decide +kernel
theorem d11_law_1867 : decode code 1867 = .ok (.aload_n 1, 1) := by decide +kernel
theorem d11_law_1868 : decode code 1868 = .ok (.aload_n 0, 1) := by decide +kernel
theorem d11_law_1869 : decode code 1869 = .ok (.iload_n 3, 1) := by decide +kernel
theorem d11_law_1870 : decode code 1870 = .ok (.iconst 1, 1) := by decide +kernel
theorem d11_law_1871 : decode code 1871 = .ok (.iadd, 1) := by decide +kernel
theorem d11_law_1872 : decode code 1872 = .ok (.iaload, 1) := by decide +kernel
theorem d11_law_1873 : decode code 1873 = .ok (.invokevirtual 294, 3) := by decide +kernel
theorem d11_law_1876 : decode code 1876 = .ok (.aload_n 2, 1) := by decide +kernel
theorem d11_law_1877 : decode code 1877 = .ok (.aload_n 0, 1) := by decide +kernel
theorem d11_law_1878 : decode code 1878 = .ok (.iload_n 3, 1) := by decide +kernel
theorem d11_law_1879 : decode code 1879 = .ok (.iconst 1, 1) := by decide +kernel
theorem d11_law_1880 : decode code 1880 = .ok (.iadd, 1) := by decide +kernel
theorem d11_law_1881 : decode code 1881 = .ok (.iaload, 1) := by decide +kernel
theorem d11_law_1882 : decode code 1882 = .ok (.invokevirtual 297, 3) := by decide +kernel
theorem d11_law_1885 : decode code 1885 = .ok (.if_icmp .eq 207, 3) := by decide +kernel
theorem d11_law_1888 : decode code 1888 = .ok (.iconst 0, 1) := by decide +kernel
theorem d11_law_1889 : decode code 1889 = .ok (.ireturn, 1) := by decide +kernel
theorem d11_law_1890 : decode code 1890 = .ok (.aload_n 1, 1) := by decide +kernel
theorem d11_law_1891 : decode code 1891 = .ok (.aload_n 0, 1) := by decide +kernel
theorem d11_law_1892 : decode code 1892 = .ok (.iload_n 3, 1) := by decide +kernel
theorem d11_law_1893 : decode code 1893 = .ok (.iconst 1, 1) := by decide +kernel
theorem d11_law_1894 : decode code 1894 = .ok (.iadd, 1) := by decide +kernel
theorem d11_law_1895 : decode code 1895 = .ok (.iaload, 1) := by decide +kernel
theorem d11_law_1896 : decode code 1896 = .ok (.invokevirtual 298, 3) := by decide +kernel
theorem d11_law_1899 : decode code 1899 = .ok (.aload_n 2, 1) := by decide +kernel
theorem d11_law_1900 : decode code 1900 = .ok (.aload_n 0, 1) := by decide +kernel
theorem d11_law_1901 : decode code 1901 = .ok (.iload_n 3, 1) := by decide +kernel
theorem d11_law_1902 : decode code 1902 = .ok (.iconst 1, 1) := by decide +kernel
theorem d11_law_1903 : decode code 1903 = .ok (.iadd, 1) := by decide +kernel
theorem d11_law_1904 : decode code 1904 = .ok (.iaload, 1) := by decide +kernel
theorem d11_law_1905 : decode code 1905 = .ok (.invokevirtual 301, 3) := by decide +kernel
theorem d11_law_1908 : decode code 1908 = .ok (.if_icmp .eq 184, 3) := by decide +kernel
theorem d11_law_1911 : decode code 1911 = .ok (.iconst 0, 1) := by decide +kernel
theorem d11_law_1912 : decode code 1912 = .ok (.ireturn, 1) := by decide +kernel
theorem d11_law_1913 : decode code 1913 = .ok (.aload_n 1, 1) := by decide +kernel
theorem d11_law_1914 : decode code 1914 = .ok (.aload_n 0, 1) := by decide +kernel
theorem d11_law_1915 : decode code 1915 = .ok (.iload_n 3, 1) := by decide +kernel
theorem d11_law_1916 : decode code 1916 = .ok (.iconst 1, 1) := by decide +kernel
theorem d11_law_1917 : decode code 1917 = .ok (.iadd, 1) := by decide +kernel
theorem d11_law_1918 : decode code 1918 = .ok (.iaload, 1) := by decide +kernel
theorem d11_law_1919 : decode code 1919 = .ok (.aload_n 0, 1) := by decide +kernel
theorem d11_law_1920 : decode code 1920 = .ok (.iload_n 3, 1) := by decide +kernel
theorem d11_law_1921 : decode code 1921 = .ok (.iconst 2, 1) := by decide +kernel
theorem d11_law_1922 : decode code 1922 = .ok (.iadd, 1) := by decide +kernel
theorem d11_law_1923 : decode code 1923 = .ok (.iaload, 1) := by decide +kernel
theorem d11_law_1924 : decode code 1924 = .ok (.aload_n 0, 1) := by decide +kernel
theorem d11_law_1925 : decode code 1925 = .ok (.iload_n 3, 1) := by decide +kernel
theorem d11_law_1926 : decode code 1926 = .ok (.iconst 3, 1) := by decide +kernel
theorem d11_law_1927 : decode code 1927 = .ok (.iadd, 1) := by decide +kernel
theorem d11_law_1928 : decode code 1928 = .ok (.iaload, 1) := by decide +kernel
theorem d11_law_1929 : decode code 1929 = .ok (.invokevirtual 302, 3) := by decide +kernel
theorem d11_law_1932 : decode code 1932 = .ok (.aload_n 2, 1) := by decide +kernel
theorem d11_law_1933 : decode code 1933 = .ok (.aload_n 0, 1) := by decide +kernel
theorem d11_law_1934 : decode code 1934 = .ok (.iload_n 3, 1) := by decide +kernel
theorem d11_law_1935 : decode code 1935 = .ok (.iconst 1, 1) := by decide +kernel
theorem d11_law_1936 : decode code 1936 = .ok (.iadd, 1) := by decide +kernel
theorem d11_law_1937 : decode code 1937 = .ok (.iaload, 1) := by decide +kernel
theorem d11_law_1938 : decode code 1938 = .ok (.aload_n 0, 1) := by decide +kernel
theorem d11_law_1939 : decode code 1939 = .ok (.iload_n 3, 1) := by decide +kernel
theorem d11_law_1940 : decode code 1940 = .ok (.iconst 2, 1) := by decide +kernel
theorem d11_law_1941 : decode code 1941 = .ok (.iadd, 1) := by decide +kernel
theorem d11_law_1942 : decode code 1942 = .ok (.iaload, 1) := by decide +kernel
theorem d11_law_1943 : decode code 1943 = .ok (.aload_n 0, 1) := by decide +kernel
theorem d11_law_1944 : decode code 1944 = .ok (.iload_n 3, 1) := by decide +kernel
theorem d11_law_1945 : decode code 1945 = .ok (.iconst 3, 1) := by decide +kernel
theorem d11_law_1946 : decode code 1946 = .ok (.iadd, 1) := by decide +kernel
theorem d11_law_1947 : decode code 1947 = .ok (.iaload, 1) := by decide +kernel
theorem d11_law_1948 : decode code 1948 = .ok (.invokevirtual 305, 3) := by decide +kernel
theorem d11_law_1951 : decode code 1951 = .ok (.if_icmp .eq 141, 3) := by decide +kernel
theorem d11_law_1954 : decode code 1954 = .ok (.iconst 0, 1) := by decide +kernel
theorem d11_law_1955 : decode code 1955 = .ok (.ireturn, 1) := by decide +kernel
theorem d11_law_1956 : decode code 1956 = .ok (.aload_n 1, 1) := by decide +kernel
theorem d11_law_1957 : decode code 1957 = .ok (.aload_n 0, 1) := by decide +kernel
theorem d11_law_1958 : decode code 1958 = .ok (.iload_n 3, 1) := by decide +kernel
theorem d11_law_1959 : decode code 1959 = .ok (.iconst 1, 1) := by decide +kernel
theorem d11_law_1960 : decode code 1960 = .ok (.iadd, 1) := by decide +kernel
theorem d11_law_1961 : decode code 1961 = .ok (.iaload, 1) := by decide +kernel
theorem d11_law_1962 : decode code 1962 = .ok (.aload_n 0, 1) := by decide +kernel
theorem d11_law_1963 : decode code 1963 = .ok (.iload_n 3, 1) := by decide +kernel
theorem d11_law_1964 : decode code 1964 = .ok (.iconst 2, 1) := by decide +kernel
theorem d11_law_1965 : decode code 1965 = .ok (.iadd, 1) := by decide +kernel
theorem d11_law_1966 : decode code 1966 = .ok (.iaload, 1) := by decide +kernel
theorem d11_law_1967 : decode code 1967 = .ok (.aload_n 0, 1) := by decide +kernel
theorem d11_law_1968 : decode code 1968 = .ok (.iload_n 3, 1) := by decide +kernel
theorem d11_law_1969 : decode code 1969 = .ok (.iconst 3, 1) := by decide +kernel
theorem d11_law_1970 : decode code 1970 = .ok (.iadd, 1) := by decide +kernel
theorem d11_law_1971 : decode code 1971 = .ok (.iaload, 1) := by decide +kernel
theorem d11_law_1972 : decode code 1972 = .ok (.i2l, 1) := by decide +kernel
theorem d11_law_1973 : decode code 1973 = .ok (.bipush 32, 2) := by decide +kernel
theorem d11_law_1975 : decode code 1975 = .ok (.lshl, 1) := by decide +kernel
theorem d11_law_1976 : decode code 1976 = .ok (.aload_n 0, 1) := by decide +kernel
theorem d11_law_1977 : decode code 1977 = .ok (.iload_n 3, 1) := by decide +kernel
theorem d11_law_1978 : decode code 1978 = .ok (.iconst 4, 1) := by decide +kernel
theorem d11_law_1979 : decode code 1979 = .ok (.iadd, 1) := by decide +kernel
theorem d11_law_1980 : decode code 1980 = .ok (.iaload, 1) := by decide +kernel
theorem d11_law_1981 : decode code 1981 = .ok (.i2l, 1) := by decide +kernel
theorem d11_law_1982 : decode code 1982 = .ok (.ldc2_w 306, 3) := by decide +kernel
theorem d11_law_1985 : decode code 1985 = .ok (.land, 1) := by decide +kernel
theorem d11_law_1986 : decode code 1986 = .ok (.lor, 1) := by decide +kernel
theorem d11_law_1987 : decode code 1987 = .ok (.invokevirtual 308, 3) := by decide +kernel
theorem d11_law_1990 : decode code 1990 = .ok (.aload_n 2, 1) := by decide +kernel
theorem d11_law_1991 : decode code 1991 = .ok (.aload_n 0, 1) := by decide +kernel
theorem d11_law_1992 : decode code 1992 = .ok (.iload_n 3, 1) := by decide +kernel
theorem d11_law_1993 : decode code 1993 = .ok (.iconst 1, 1) := by decide +kernel
theorem d11_law_1994 : decode code 1994 = .ok (.iadd, 1) := by decide +kernel
theorem d11_law_1995 : decode code 1995 = .ok (.iaload, 1) := by decide +kernel
theorem d11_law_1996 : decode code 1996 = .ok (.aload_n 0, 1) := by decide +kernel
theorem d11_law_1997 : decode code 1997 = .ok (.iload_n 3, 1) := by decide +kernel
theorem d11_law_1998 : decode code 1998 = .ok (.iconst 2, 1) := by decide +kernel
theorem d11_law_1999 : decode code 1999 = .ok (.iadd, 1) := by decide +kernel
theorem d11_law_2000 : decode code 2000 = .ok (.iaload, 1) := by decide +kernel
theorem d11_law_2001 : decode code 2001 = .ok (.aload_n 0, 1) := by decide +kernel
theorem d11_law_2002 : decode code 2002 = .ok (.iload_n 3, 1) := by decide +kernel
theorem d11_law_2003 : decode code 2003 = .ok (.iconst 3, 1) := by decide +kernel
theorem d11_law_2004 : decode code 2004 = .ok (.iadd, 1) := by decide +kernel
theorem d11_law_2005 : decode code 2005 = .ok (.iaload, 1) := by decide +kernel
theorem d11_law_2006 : decode code 2006 = .ok (.i2l, 1) := by decide +kernel
theorem d11_law_2007 : decode code 2007 = .ok (.bipush 32, 2) := by decide +kernel
theorem d11_law_2009 : decode code 2009 = .ok (.lshl, 1) := by decide +kernel
theorem d11_law_2010 : decode code 2010 = .ok (.aload_n 0, 1) := by decide +kernel
theorem d11_law_2011 : decode code 2011 = .ok (.iload_n 3, 1) := by decide +kernel
theorem d11_law_2012 : decode code 2012 = .ok (.iconst 4, 1) := by decide +kernel
theorem d11_law_2013 : decode code 2013 = .ok (.iadd, 1) := by decide +kernel
theorem d11_law_2014 : decode code 2014 = .ok (.iaload, 1) := by decide +kernel
theorem d11_law_2015 : decode code 2015 = .ok (.i2l, 1) := by decide +kernel
theorem d11_law_2016 : decode code 2016 = .ok (.ldc2_w 306, 3) := by decide +kernel
theorem d11_law_2019 : decode code 2019 = .ok (.land, 1) := by decide +kernel
theorem d11_law_2020 : decode code 2020 = .ok (.lor, 1) := by decide +kernel
theorem d11_law_2021 : decode code 2021 = .ok (.invokevirtual 312, 3) := by decide +kernel
theorem d11_law_2024 : decode code 2024 = .ok (.if_icmp .eq 68, 3) := by decide +kernel
theorem d11_law_2027 : decode code 2027 = .ok (.iconst 0, 1) := by decide +kernel
theorem d11_law_2028 : decode code 2028 = .ok (.ireturn, 1) := by decide +kernel
theorem d11_law_2029 : decode code 2029 = .ok (.aload_n 1, 1) := by decide +kernel
theorem d11_law_2030 : decode code 2030 = .ok (.aload_n 0, 1) := by decide +kernel
theorem d11_law_2031 : decode code 2031 = .ok (.iload_n 3, 1) := by decide +kernel
theorem d11_law_2032 : decode code 2032 = .ok (.iconst 1, 1) := by decide +kernel
theorem d11_law_2033 : decode code 2033 = .ok (.iadd, 1) := by decide +kernel
theorem d11_law_2034 : decode code 2034 = .ok (.iaload, 1) := by decide +kernel
theorem d11_law_2035 : decode code 2035 = .ok (.aload_n 0, 1) := by decide +kernel
theorem d11_law_2036 : decode code 2036 = .ok (.iload_n 3, 1) := by decide +kernel
theorem d11_law_2037 : decode code 2037 = .ok (.iconst 2, 1) := by decide +kernel
theorem d11_law_2038 : decode code 2038 = .ok (.iadd, 1) := by decide +kernel
theorem d11_law_2039 : decode code 2039 = .ok (.iaload, 1) := by decide +kernel
theorem d11_law_2040 : decode code 2040 = .ok (.aload_n 0, 1) := by decide +kernel
theorem d11_law_2041 : decode code 2041 = .ok (.iload_n 3, 1) := by decide +kernel
theorem d11_law_2042 : decode code 2042 = .ok (.iconst 3, 1) := by decide +kernel
theorem d11_law_2043 : decode code 2043 = .ok (.iadd, 1) := by decide +kernel
theorem d11_law_2044 : decode code 2044 = .ok (.iaload, 1) := by decide +kernel
theorem d11_law_2045 : decode code 2045 = .ok (.aload_n 0, 1) := by decide +kernel
theorem d11_law_2046 : decode code 2046 = .ok (.iload_n 3, 1) := by decide +kernel
theorem d11_law_2047 : decode code 2047 = .ok (.iconst 4, 1) := by decide +kernel
theorem d11_law_2048 : decode code 2048 = .ok (.iadd, 1) := by decide +kernel
theorem d11_law_2049 : decode code 2049 = .ok (.iaload, 1) := by decide +kernel
theorem d11_law_2050 : decode code 2050 = .ok (.aload_n 0, 1) := by decide +kernel
theorem d11_law_2051 : decode code 2051 = .ok (.iload_n 3, 1) := by decide +kernel
theorem d11_law_2052 : decode code 2052 = .ok (.iconst 5, 1) := by decide +kernel
theorem d11_law_2053 : decode code 2053 = .ok (.iadd, 1) := by decide +kernel
theorem d11_law_2054 : decode code 2054 = .ok (.iaload, 1) := by decide +kernel
theorem d11_law_2055 : decode code 2055 = .ok (.invokevirtual 313, 3) := by decide +kernel
theorem d11_law_2058 : decode code 2058 = .ok (.aload_n 2, 1) := by decide +kernel
theorem d11_law_2059 : decode code 2059 = .ok (.aload_n 0, 1) := by decide +kernel
theorem d11_law_2060 : decode code 2060 = .ok (.iload_n 3, 1) := by decide +kernel
theorem d11_law_2061 : decode code 2061 = .ok (.iconst 1, 1) := by decide +kernel
theorem d11_law_2062 : decode code 2062 = .ok (.iadd, 1) := by decide +kernel
theorem d11_law_2063 : decode code 2063 = .ok (.iaload, 1) := by decide +kernel
theorem d11_law_2064 : decode code 2064 = .ok (.aload_n 0, 1) := by decide +kernel
theorem d11_law_2065 : decode code 2065 = .ok (.iload_n 3, 1) := by decide +kernel
theorem d11_law_2066 : decode code 2066 = .ok (.iconst 2, 1) := by decide +kernel
theorem d11_law_2067 : decode code 2067 = .ok (.iadd, 1) := by decide +kernel
theorem d11_law_2068 : decode code 2068 = .ok (.iaload, 1) := by decide +kernel
theorem d11_law_2069 : decode code 2069 = .ok (.aload_n 0, 1) := by decide +kernel
theorem d11_law_2070 : decode code 2070 = .ok (.iload_n 3, 1) := by decide +kernel
theorem d11_law_2071 : decode code 2071 = .ok (.iconst 3, 1) := by decide +kernel
theorem d11_law_2072 : decode code 2072 = .ok (.iadd, 1) := by decide +kernel
theorem d11_law_2073 : decode code 2073 = .ok (.iaload, 1) := by decide +kernel
theorem d11_law_2074 : decode code 2074 = .ok (.aload_n 0, 1) := by decide +kernel
theorem d11_law_2075 : decode code 2075 = .ok (.iload_n 3, 1) := by decide +kernel
theorem d11_law_2076 : decode code 2076 = .ok (.iconst 4, 1) := by decide +kernel
theorem d11_law_2077 : decode code 2077 = .ok (.iadd, 1) := by decide +kernel
theorem d11_law_2078 : decode code 2078 = .ok (.iaload, 1) := by decide +kernel
theorem d11_law_2079 : decode code 2079 = .ok (.aload_n 0, 1) := by decide +kernel
theorem d11_law_2080 : decode code 2080 = .ok (.iload_n 3, 1) := by decide +kernel
theorem d11_law_2081 : decode code 2081 = .ok (.iconst 5, 1) := by decide +kernel
theorem d11_law_2082 : decode code 2082 = .ok (.iadd, 1) := by decide +kernel
theorem d11_law_2083 : decode code 2083 = .ok (.iaload, 1) := by decide +kernel
theorem d11_law_2084 : decode code 2084 = .ok (.invokevirtual 316, 3) := by decide +kernel
theorem d11_law_2087 : decode code 2087 = .ok (.if_icmp .eq 5, 3) := by decide +kernel
theorem d11_law_2090 : decode code 2090 = .ok (.iconst 0, 1) := by decide +kernel
theorem d11_law_2091 : decode code 2091 = .ok (.ireturn, 1) := by decide +kernel
theorem d11_law_2092 : decode code 2092 = .ok (.iinc 3 6, 3) := by decide +kernel
theorem d11_law_2095 : decode code 2095 = .ok (.goto (-2077), 3) := by decide +kernel
theorem d11_law_2098 : decode code 2098 = .ok (.iconst 1, 1) := by decide +kernel
theorem d11_law_2099 : decode code 2099 = .ok (.ireturn, 1) := by decide +kernel
theorem lm11_13 : LkM 11 13 y9_feed := Or.inl (T0_3 22 (by decide +kernel) rfl)
theorem lm11_17 : LkM 11 17 y10_feed := Or.inl (T0_6 155 (by decide +kernel) rfl)
theorem lm11_18 : LkM 11 18 y9_end := Or.inl (T0_3 30 (by decide +kernel) rfl)
theorem lm11_22 : LkM 11 22 y10_end := Or.inl (T0_6 159 (by decide +kernel) rfl)
theorem lm11_23 : LkM 11 23 y9_parish := Or.inl (T0_3 34 (by decide +kernel) rfl)
theorem lm11_27 : LkM 11 27 y10_parish := Or.inl (T0_6 167 (by decide +kernel) rfl)
theorem lm11_28 : LkM 11 28 y9_fault := Or.inl (T0_3 158 (by decide +kernel) rfl)
theorem lm11_31 : LkM 11 31 y10_fault := Or.inl (T0_6 163 (by decide +kernel) rfl)
theorem lm11_32 : LkM 11 32 y9_person := Or.inl (T0_3 162 (by decide +kernel) rfl)
theorem lm11_36 : LkM 11 36 y10_person := Or.inl (T0_6 232 (by decide +kernel) rfl)
theorem lm11_37 : LkM 11 37 y9_gives := Or.inl (T0_3 170 (by decide +kernel) rfl)
theorem lm11_40 : LkM 11 40 y10_gives := Or.inl (T0_7 48 (by decide +kernel) rfl)
theorem lm11_41 : LkM 11 41 y9_given := Or.inl (T0_3 174 (by decide +kernel) rfl)
theorem lm11_44 : LkM 11 44 y10_given := Or.inl (T0_7 52 (by decide +kernel) rfl)
theorem lm11_45 : LkM 11 45 y9_waits := Or.inl (T0_3 182 (by decide +kernel) rfl)
theorem lm11_48 : LkM 11 48 y10_waits := Or.inl (T0_7 68 (by decide +kernel) rfl)
theorem lm11_49 : LkM 11 49 y9_left := Or.inl (T0_3 186 (by decide +kernel) rfl)
theorem lm11_52 : LkM 11 52 y10_left := Or.inl (T0_7 76 (by decide +kernel) rfl)
theorem lm11_53 : LkM 11 53 y9_bears := Or.inl (T0_3 190 (by decide +kernel) rfl)
theorem lm11_56 : LkM 11 56 y10_bears := Or.inl (T0_7 80 (by decide +kernel) rfl)
theorem lm11_57 : LkM 11 57 y9_groans := Or.inl (T0_3 194 (by decide +kernel) rfl)
theorem lm11_60 : LkM 11 60 y10_groans := Or.inl (T0_7 97 (by decide +kernel) rfl)
theorem lm11_61 : LkM 11 61 y9_all := Or.inl (T0_3 198 (by decide +kernel) rfl)
theorem lm11_64 : LkM 11 64 y10_all := Or.inl (T0_7 101 (by decide +kernel) rfl)
theorem lm11_65 : LkM 11 65 y9_worst := Or.inl (T0_3 206 (by decide +kernel) rfl)
theorem lm11_68 : LkM 11 68 y10_worst := Or.inl (T0_7 109 (by decide +kernel) rfl)
theorem lm11_69 : LkM 11 69 y9_crowded := Or.inl (T0_3 210 (by decide +kernel) rfl)
theorem lm11_72 : LkM 11 72 y10_crowded := Or.inl (T0_7 113 (by decide +kernel) rfl)
theorem lm11_73 : LkM 11 73 y9_holds := Or.inl (T0_3 214 (by decide +kernel) rfl)
theorem lm11_76 : LkM 11 76 y10_holds := Or.inl (T0_7 117 (by decide +kernel) rfl)
theorem lm11_77 : LkM 11 77 y9_cut := Or.inl (T0_3 218 (by decide +kernel) rfl)
theorem lm11_80 : LkM 11 80 y10_cut := Or.inl (T0_7 121 (by decide +kernel) rfl)
theorem lm11_81 : LkM 11 81 y9_feast := Or.inl (T0_3 222 (by decide +kernel) rfl)
theorem lm11_84 : LkM 11 84 y10_feast := Or.inl (T0_7 125 (by decide +kernel) rfl)
theorem lm11_85 : LkM 11 85 y9_paid := Or.inl (T0_3 230 (by decide +kernel) rfl)
theorem lm11_88 : LkM 11 88 y10_paid := Or.inl (T0_7 129 (by decide +kernel) rfl)
theorem lm11_89 : LkM 11 89 y9_quiet := Or.inl (T0_3 238 (by decide +kernel) rfl)
theorem lm11_92 : LkM 11 92 y10_quiet := Or.inl (T0_7 133 (by decide +kernel) rfl)
theorem lm11_93 : LkM 11 93 y9_kept := Or.inl (T0_4 2 (by decide +kernel) rfl)
theorem lm11_96 : LkM 11 96 y10_kept := Or.inl (T0_7 137 (by decide +kernel) rfl)
theorem lm11_97 : LkM 11 97 y9_idle := Or.inl (T0_4 6 (by decide +kernel) rfl)
theorem lm11_100 : LkM 11 100 y10_idle := Or.inl (T0_7 141 (by decide +kernel) rfl)
theorem lm11_101 : LkM 11 101 y9_big := Or.inl (T0_4 10 (by decide +kernel) rfl)
theorem lm11_104 : LkM 11 104 y10_big := Or.inl (T0_7 145 (by decide +kernel) rfl)
theorem lm11_105 : LkM 11 105 y9_suits := Or.inl (T0_4 43 (by decide +kernel) rfl)
theorem lm11_108 : LkM 11 108 y10_suits := Or.inl (T0_7 149 (by decide +kernel) rfl)
theorem lm11_109 : LkM 11 109 y9_last := Or.inl (T0_4 14 (by decide +kernel) rfl)
theorem lm11_112 : LkM 11 112 y10_last := Or.inl (T0_7 154 (by decide +kernel) rfl)
theorem lm11_113 : LkM 11 113 y9_gap := Or.inl (T0_4 21 (by decide +kernel) rfl)
theorem lm11_116 : LkM 11 116 y10_gap := Or.inl (T0_7 158 (by decide +kernel) rfl)
theorem lm11_117 : LkM 11 117 y9_without := Or.inl (T0_4 48 (by decide +kernel) rfl)
theorem lm11_120 : LkM 11 120 y10_without := Or.inl (T0_7 162 (by decide +kernel) rfl)
theorem lm11_121 : LkM 11 121 y9_blocks := Or.inl (T0_4 56 (by decide +kernel) rfl)
theorem lm11_124 : LkM 11 124 y10_blocks := Or.inl (T0_7 166 (by decide +kernel) rfl)
theorem lm11_125 : LkM 11 125 y9_when := Or.inl (T0_4 25 (by decide +kernel) rfl)
theorem lm11_128 : LkM 11 128 y10_when := Or.inl (T0_7 174 (by decide +kernel) rfl)
theorem lm11_129 : LkM 11 129 y9_share := Or.inl (T0_4 29 (by decide +kernel) rfl)
theorem lm11_132 : LkM 11 132 y10_share := Or.inl (T0_7 179 (by decide +kernel) rfl)
theorem lm11_133 : LkM 11 133 y9_wide := Or.inl (T0_4 60 (by decide +kernel) rfl)
theorem lm11_136 : LkM 11 136 y10_wide := Or.inl (T0_7 189 (by decide +kernel) rfl)
theorem lm11_137 : LkM 11 137 y9_mild := Or.inl (T0_4 64 (by decide +kernel) rfl)
theorem lm11_140 : LkM 11 140 y10_mild := Or.inl (T0_7 193 (by decide +kernel) rfl)
theorem lm11_141 : LkM 11 141 y9_regret := Or.inl (T0_4 145 (by decide +kernel) rfl)
theorem lm11_144 : LkM 11 144 y10_regret := Or.inl (T0_8 1 (by decide +kernel) rfl)
theorem lm11_145 : LkM 11 145 y9_spoons := Or.inl (T0_4 200 (by decide +kernel) rfl)
theorem lm11_148 : LkM 11 148 y10_spoons := Or.inl (T0_8 65 (by decide +kernel) rfl)
theorem lm11_149 : LkM 11 149 y9_lonely := Or.inl (T0_4 204 (by decide +kernel) rfl)
theorem lm11_152 : LkM 11 152 y10_lonely := Or.inl (T0_8 69 (by decide +kernel) rfl)
theorem lm11_153 : LkM 11 153 y9_costs := Or.inl (T0_5 56 (by decide +kernel) rfl)
theorem lm11_156 : LkM 11 156 y10_costs := Or.inl (T0_8 127 (by decide +kernel) rfl)
theorem lm11_157 : LkM 11 157 y9_least := Or.inl (T0_4 108 (by decide +kernel) rfl)
theorem lm11_160 : LkM 11 160 y10_least := Or.inl (T0_7 209 (by decide +kernel) rfl)
theorem lm11_161 : LkM 11 161 y9_plan := Or.inl (T0_4 149 (by decide +kernel) rfl)
theorem lm11_164 : LkM 11 164 y10_plan := Or.inl (T0_7 237 (by decide +kernel) rfl)
theorem lm11_165 : LkM 11 165 y9_ways := Or.inl (T0_4 158 (by decide +kernel) rfl)
theorem lm11_169 : LkM 11 169 y10_ways := Or.inl (T0_7 232 (by decide +kernel) rfl)
theorem lm11_170 : LkM 11 170 y9_room := Or.inl (T0_4 163 (by decide +kernel) rfl)
theorem lm11_173 : LkM 11 173 y10_room := Or.inl (T0_8 5 (by decide +kernel) rfl)
theorem lm11_174 : LkM 11 174 y9_by := Or.inl (T0_4 68 (by decide +kernel) rfl)
theorem lm11_177 : LkM 11 177 y10_by := Or.inl (T0_8 10 (by decide +kernel) rfl)
theorem lm11_178 : LkM 11 178 y9_rule := Or.inl (T0_4 80 (by decide +kernel) rfl)
theorem lm11_181 : LkM 11 181 y10_rule := Or.inl (T0_8 21 (by decide +kernel) rfl)
theorem lm11_182 : LkM 11 182 y9_groan := Or.inl (T0_4 84 (by decide +kernel) rfl)
theorem lm11_185 : LkM 11 185 y10_groan := Or.inl (T0_8 25 (by decide +kernel) rfl)
theorem lm11_186 : LkM 11 186 y9_tempts := Or.inl (T0_4 96 (by decide +kernel) rfl)
theorem lm11_189 : LkM 11 189 y10_tempts := Or.inl (T0_8 33 (by decide +kernel) rfl)
theorem lm11_190 : LkM 11 190 y9_proof := Or.inl (T0_4 104 (by decide +kernel) rfl)
theorem lm11_193 : LkM 11 193 y10_proof := Or.inl (T0_8 41 (by decide +kernel) rfl)
theorem lm11_194 : LkM 11 194 y9_pairs := Or.inl (T0_4 175 (by decide +kernel) rfl)
theorem lm11_197 : LkM 11 197 y10_pairs := Or.inl (T0_8 45 (by decide +kernel) rfl)
theorem lm11_198 : LkM 11 198 y9_bearer := Or.inl (T0_4 196 (by decide +kernel) rfl)
theorem lm11_201 : LkM 11 201 y10_bearer := Or.inl (T0_8 57 (by decide +kernel) rfl)
theorem lm11_202 : LkM 11 202 y9_kinder := Or.inl (T0_4 208 (by decide +kernel) rfl)
theorem lm11_205 : LkM 11 205 y10_kinder := Or.inl (T0_8 73 (by decide +kernel) rfl)
theorem lm11_206 : LkM 11 206 y9_whose := Or.inl (T0_4 231 (by decide +kernel) rfl)
theorem lm11_209 : LkM 11 209 y10_whose := Or.inl (T0_8 81 (by decide +kernel) rfl)
theorem lm11_210 : LkM 11 210 y9_fits := Or.inl (T0_5 29 (by decide +kernel) rfl)
theorem lm11_213 : LkM 11 213 y10_fits := Or.inl (T0_8 96 (by decide +kernel) rfl)
theorem lm11_214 : LkM 11 214 y9_ask := Or.inl (T0_5 34 (by decide +kernel) rfl)
theorem lm11_217 : LkM 11 217 y10_ask := Or.inl (T0_8 100 (by decide +kernel) rfl)
theorem lm11_218 : LkM 11 218 y9_leaves := Or.inl (T0_5 38 (by decide +kernel) rfl)
theorem lm11_221 : LkM 11 221 y10_leaves := Or.inl (T0_8 108 (by decide +kernel) rfl)
theorem lm11_222 : LkM 11 222 y9_nights := Or.inl (T0_5 42 (by decide +kernel) rfl)
theorem lm11_225 : LkM 11 225 y10_nightsX := Or.inl (T0_8 112 (by decide +kernel) rfl)
theorem lm11_226 : LkM 11 226 y9_fair := Or.inl (T0_5 64 (by decide +kernel) rfl)
theorem lm11_229 : LkM 11 229 y10_fair := Or.inl (T0_8 148 (by decide +kernel) rfl)
theorem lm11_230 : LkM 11 230 y9_leave := Or.inl (T0_5 82 (by decide +kernel) rfl)
theorem lm11_233 : LkM 11 233 y10_leave := Or.inl (T0_8 131 (by decide +kernel) rfl)
theorem lm11_234 : LkM 11 234 y9_rests := Or.inl (T0_5 86 (by decide +kernel) rfl)
theorem lm11_237 : LkM 11 237 y10_rests := Or.inl (T0_8 152 (by decide +kernel) rfl)
theorem lm11_238 : LkM 11 238 y9_rest := Or.inl (T0_5 106 (by decide +kernel) rfl)
theorem lm11_241 : LkM 11 241 y10_rest := Or.inl (T0_8 168 (by decide +kernel) rfl)
theorem lm11_242 : LkM 11 242 y9_holding := Or.inl (T0_5 110 (by decide +kernel) rfl)
theorem lm11_246 : LkM 11 246 y10_holding := Or.inl (T0_8 172 (by decide +kernel) rfl)
theorem lm11_247 : LkM 11 247 y9_born := Or.inl (T0_5 118 (by decide +kernel) rfl)
theorem lm11_251 : LkM 11 251 y10_born := Or.inl (T0_8 176 (by decide +kernel) rfl)
theorem lm11_252 : LkM 11 252 y9_mean := Or.inl (T0_5 123 (by decide +kernel) rfl)
theorem lm11_256 : LkM 11 256 y10_mean := Or.inl (T0_8 192 (by decide +kernel) rfl)
theorem lm11_257 : LkM 11 257 y9_late := Or.inl (T0_5 131 (by decide +kernel) rfl)
theorem lm11_260 : LkM 11 260 y10_late := Or.inl (T0_8 184 (by decide +kernel) rfl)
theorem lm11_261 : LkM 11 261 y9_ache := Or.inl (T0_5 156 (by decide +kernel) rfl)
theorem lm11_264 : LkM 11 264 y10_ache := Or.inl (T0_8 196 (by decide +kernel) rfl)
theorem lm11_265 : LkM 11 265 y9_comes := Or.inl (T0_5 168 (by decide +kernel) rfl)
theorem lm11_268 : LkM 11 268 y10_comes := Or.inl (T0_8 204 (by decide +kernel) rfl)
theorem lm11_269 : LkM 11 269 y9_undo := Or.inl (T0_5 172 (by decide +kernel) rfl)
theorem lm11_272 : LkM 11 272 y10_undo := Or.inl (T0_8 209 (by decide +kernel) rfl)
theorem lm11_273 : LkM 11 273 y9_anew := Or.inl (T0_5 180 (by decide +kernel) rfl)
theorem lm11_276 : LkM 11 276 y10_anew := Or.inl (T0_8 213 (by decide +kernel) rfl)
theorem lm11_277 : LkM 11 277 y9_drawn := Or.inl (T0_5 135 (by decide +kernel) rfl)
theorem lm11_280 : LkM 11 280 y10_drawn := Or.inl (T0_8 217 (by decide +kernel) rfl)
theorem lm11_281 : LkM 11 281 y9_luck := Or.inl (T0_5 152 (by decide +kernel) rfl)
theorem lm11_285 : LkM 11 285 y10_luck := Or.inl (T0_8 233 (by decide +kernel) rfl)
theorem lm11_286 : LkM 11 286 y9_widen := Or.inl (T0_5 184 (by decide +kernel) rfl)
theorem lm11_289 : LkM 11 289 y10_widen := Or.inl (T0_8 237 (by decide +kernel) rfl)
theorem lm11_290 : LkM 11 290 y9_count := Or.inl (T0_5 188 (by decide +kernel) rfl)
theorem lm11_293 : LkM 11 293 y10_count := Or.inl (T0_9 2 (by decide +kernel) rfl)
theorem lm11_294 : LkM 11 294 y9_image := Or.inl (T0_5 196 (by decide +kernel) rfl)
theorem lm11_297 : LkM 11 297 y10_image := Or.inl (T0_6 143 (by decide +kernel) rfl)
theorem lm11_298 : LkM 11 298 y9_back := Or.inl (T0_5 204 (by decide +kernel) rfl)
theorem lm11_301 : LkM 11 301 y10_back := Or.inl (T0_6 151 (by decide +kernel) rfl)
theorem lm11_302 : LkM 11 302 y9_row := Or.inl (T0_5 208 (by decide +kernel) rfl)
theorem lm11_305 : LkM 11 305 y10_row := Or.inl (T0_9 7 (by decide +kernel) rfl)
theorem lc11_306 : Cond.constantLong (RN 11) 306 (Int64.ofInt 4294967295) ∈ T0 := T0_9 22 (by decide +kernel) rfl
theorem lm11_308 : LkM 11 308 y9_write := Or.inl (T0_5 219 (by decide +kernel) rfl)
theorem lm11_312 : LkM 11 312 y10_write := Or.inl (T0_9 11 (by decide +kernel) rfl)
theorem lm11_313 : LkM 11 313 y9_paste := Or.inl (T0_5 227 (by decide +kernel) rfl)
theorem lm11_316 : LkM 11 316 y10_paste := Or.inl (T0_9 18 (by decide +kernel) rfl)
theorem wpo_none {α : Type} {P : α → Prop} (h : wpo none P) : False := by
  obtain ⟨a, h1, -⟩ := h
  cases h1
section LAWR
variable {K : KT} {X : XT} {Z : State → Prop} {cs ss n nL pc o b L : Nat} {ρ : Rho} {lv : List (Nat × Value)} {rest : List Value} {D : Mem} {cc : ByteArray} {rtn : Option FieldType} {rm : Room} {xs : Nat → Int32}
theorem r_slen (F : Fx K X o cc nL rtn rm) (hX : va_X b L xs K.s K.s.heap) (hbl : b < X.B ∧ b < K.s.heap.size) (d : decode cc pc = .ok (.arraylength, 1)) (k : At K X Z cs ss n ρ nL (pc + 1) lv (vI (L : Int) :: rest) D) : At K X Z cs ss n ρ nL pc lv (Value.ref b :: rest) D := by
  intro H locs ls hz hP hS hl
  have e : Int32.ofNat L = Int32.ofInt (L : Int) := by first | rfl | exact (Int32.ofInt_eq_ofNat).symm | exact Int32.toInt_inj.mp (by simp)
  have q := k H locs ls hz hP hS hl
  rw [vI, ← e] at q
  exact va_slen F.1 F.2.1 hX hbl.2 (by show ¬ X.B ≤ b; omega) hS d q
theorem r_sld (F : Fx K X o cc nL rtn rm) (hL : L ≤ 3072) (hX : va_X b L xs K.s K.s.heap) (hbl : b < X.B ∧ b < K.s.heap.size) {xi : Nat → Int} (hxs : ∀ j, (xs j).toInt = xi j) {i : Int} (hi : 0 ≤ i ∧ i < (L : Int)) (d : decode cc pc = .ok (.iaload, 1)) (k : At K X Z cs ss n ρ nL (pc + 1) lv (vI (xi i.toNat) :: rest) D) : At K X Z cs ss n ρ nL pc lv (vI i :: Value.ref b :: rest) D := by
  intro H locs ls hz hP hS hl
  obtain ⟨h1, h2⟩ := ix_in hi (by omega)
  have q := k H locs ls hz hP hS hl
  rw [← hxs, vI_of] at q
  exact va_sld F.1 F.2.1 hX hbl.2 (by show ¬ X.B ≤ b; omega) hS h1 d (by rw [h2]; exact q)
end LAWR
/-- the law's end -/
theorem lw_end {K : KT} {X : XT} {cs ss n pc b : Nat} {ρ : Rho} {lv : List (Nat × Value)} {D : Mem} (F : Fx K X 11 code 4 ret room_1) (hR : K.R = room_1 ∧ K.args = #[Value.ref b] ∧ X.B = K.s.heap.size ∧ cs ≤ 600000 ∧ ss ≤ 7302250) (d : decode code pc = .ok (.ireturn, 1)) : At K X (lw_Z K.below #[Value.ref b] K.s) cs ss n ρ 4 pc lv [vI 1] D := by
  intro H locs ls hz hP hS hl
  obtain ⟨p, l, e, R, s, m, args, below, meth, c⟩ := K
  obtain ⟨h1, h2, h3, h4, h5⟩ := hR
  have h1 : R = room_1 := h1
  have h2 : args = #[Value.ref b] := h2
  subst h1
  subst h2
  refine va_forget (fun q hq => by have := hS.2.2 q hq; have h9 : X.B ≤ q.base := this; rw [h3] at h9; exact h9) ?_
  refine W.widen (k := 600000) (n := 7302250) h4 h5 ?_
  exact lw_ret F.1 F.2.1 F.2.2.2.2.2.1 F.2.2.2.2.2.2.1 d
def f11_law (xs : Nat → Int) (L : Nat) (D : Mem) : Option Unit :=
  Option.bind (@loop (Int × Mem) ((Mem) ⊕ (Unit)) (fun s1 =>
    if w32 ((L : Int) - 6) < w32 s1.1 then
      some (Sum.inr (Sum.inl s1.2))
    else
      if 0 ≤ s1.1 ∧ s1.1 < (L : Int) then
        if w32 (and32 (xs s1.1.toNat) 127) = 0 then
          if 0 ≤ (s1.1 + 1) ∧ (s1.1 + 1) < (L : Int) then
            if 0 ≤ (s1.1 + 2) ∧ (s1.1 + 2) < (L : Int) then
              if 0 ≤ (s1.1 + 3) ∧ (s1.1 + 3) < (L : Int) then
                if 0 ≤ (s1.1 + 4) ∧ (s1.1 + 4) < (L : Int) then
                  if 0 ≤ (s1.1 + 5) ∧ (s1.1 + 5) < (L : Int) then
                    Option.bind (f9_feed s1.2 (xs (s1.1 + 1).toNat) (xs (s1.1 + 2).toNat) (xs (s1.1 + 3).toNat) (xs (s1.1 + 4).toNat) (xs (s1.1 + 5).toNat)) fun (a145 : Int × Mem) =>
                    Option.bind (f10_feed a145.2 (xs (s1.1 + 1).toNat) (xs (s1.1 + 2).toNat) (xs (s1.1 + 3).toNat) (xs (s1.1 + 4).toNat) (xs (s1.1 + 5).toNat)) fun (a146 : Int × Mem) =>
                    if w32 a145.1 = w32 a146.1 then
                      some (Sum.inl ((s1.1 + 6), a146.2))
                    else
                      none
                  else none
                else none
              else none
            else none
          else none
        else
          if w32 (and32 (xs s1.1.toNat) 127) = 1 then
            if 0 ≤ (s1.1 + 1) ∧ (s1.1 + 1) < (L : Int) then
              Option.bind (f9_end s1.2 (xs (s1.1 + 1).toNat)) fun (a143 : Int × Mem) =>
              Option.bind (f10_end a143.2 (xs (s1.1 + 1).toNat)) fun (a144 : Int × Mem) =>
              if w32 a143.1 = w32 a144.1 then
                some (Sum.inl ((s1.1 + 6), a144.2))
              else
                none
            else none
          else
            if w32 (and32 (xs s1.1.toNat) 127) = 2 then
              Option.bind (f9_parish s1.2) fun (a141 : Int × Mem) =>
              Option.bind (f10_parish a141.2) fun (a142 : Int × Mem) =>
              if w32 a141.1 = w32 a142.1 then
                some (Sum.inl ((s1.1 + 6), a142.2))
              else
                none
            else
              if w32 (and32 (xs s1.1.toNat) 127) = 3 then
                if 0 ≤ (s1.1 + 1) ∧ (s1.1 + 1) < (L : Int) then
                  Option.bind (f9_fault s1.2 (xs (s1.1 + 1).toNat)) fun (a139 : Int) =>
                  Option.bind (f10_fault s1.2 (xs (s1.1 + 1).toNat)) fun (a140 : Int) =>
                  if w32 a139 = w32 a140 then
                    some (Sum.inl ((s1.1 + 6), s1.2))
                  else
                    none
                else none
              else
                if w32 (and32 (xs s1.1.toNat) 127) = 4 then
                  if 0 ≤ (s1.1 + 1) ∧ (s1.1 + 1) < (L : Int) then
                    if 0 ≤ (s1.1 + 2) ∧ (s1.1 + 2) < (L : Int) then
                      Option.bind (f9_person s1.2 (xs (s1.1 + 1).toNat) (xs (s1.1 + 2).toNat)) fun (a137 : Int) =>
                      Option.bind (f10_person s1.2 (xs (s1.1 + 1).toNat) (xs (s1.1 + 2).toNat)) fun (a138 : Int × Mem) =>
                      if w32 a137 = w32 a138.1 then
                        some (Sum.inl ((s1.1 + 6), a138.2))
                      else
                        none
                    else none
                  else none
                else
                  if w32 (and32 (xs s1.1.toNat) 127) = 5 then
                    if 0 ≤ (s1.1 + 1) ∧ (s1.1 + 1) < (L : Int) then
                      Option.bind (f9_gives s1.2 (xs (s1.1 + 1).toNat)) fun (a135 : Int) =>
                      Option.bind (f10_gives s1.2 (xs (s1.1 + 1).toNat)) fun (a136 : Int × Mem) =>
                      if w32 a135 = w32 a136.1 then
                        some (Sum.inl ((s1.1 + 6), a136.2))
                      else
                        none
                    else none
                  else
                    if w32 (and32 (xs s1.1.toNat) 127) = 6 then
                      if 0 ≤ (s1.1 + 1) ∧ (s1.1 + 1) < (L : Int) then
                        Option.bind (f9_given s1.2 (xs (s1.1 + 1).toNat)) fun (a133 : Int) =>
                        Option.bind (f10_given s1.2 (xs (s1.1 + 1).toNat)) fun (a134 : Int × Mem) =>
                        if w32 a133 = w32 a134.1 then
                          some (Sum.inl ((s1.1 + 6), a134.2))
                        else
                          none
                      else none
                    else
                      if w32 (and32 (xs s1.1.toNat) 127) = 7 then
                        if 0 ≤ (s1.1 + 1) ∧ (s1.1 + 1) < (L : Int) then
                          Option.bind (f9_waits s1.2 (xs (s1.1 + 1).toNat)) fun (a131 : Int) =>
                          Option.bind (f10_waits s1.2 (xs (s1.1 + 1).toNat)) fun (a132 : Int × Mem) =>
                          if w32 a131 = w32 a132.1 then
                            some (Sum.inl ((s1.1 + 6), a132.2))
                          else
                            none
                        else none
                      else
                        if w32 (and32 (xs s1.1.toNat) 127) = 8 then
                          if 0 ≤ (s1.1 + 1) ∧ (s1.1 + 1) < (L : Int) then
                            Option.bind (f9_left s1.2 (xs (s1.1 + 1).toNat)) fun (a129 : Int) =>
                            Option.bind (f10_left s1.2 (xs (s1.1 + 1).toNat)) fun (a130 : Int × Mem) =>
                            if w32 a129 = w32 a130.1 then
                              some (Sum.inl ((s1.1 + 6), a130.2))
                            else
                              none
                          else none
                        else
                          if w32 (and32 (xs s1.1.toNat) 127) = 9 then
                            if 0 ≤ (s1.1 + 1) ∧ (s1.1 + 1) < (L : Int) then
                              Option.bind (f9_bears s1.2 (xs (s1.1 + 1).toNat)) fun (a127 : Int) =>
                              Option.bind (f10_bears s1.2 (xs (s1.1 + 1).toNat)) fun (a128 : Int × Mem) =>
                              if w32 a127 = w32 a128.1 then
                                some (Sum.inl ((s1.1 + 6), a128.2))
                              else
                                none
                            else none
                          else
                            if w32 (and32 (xs s1.1.toNat) 127) = 10 then
                              if 0 ≤ (s1.1 + 1) ∧ (s1.1 + 1) < (L : Int) then
                                Option.bind (f9_groans s1.2 (xs (s1.1 + 1).toNat)) fun (a125 : Int) =>
                                Option.bind (f10_groans s1.2 (xs (s1.1 + 1).toNat)) fun (a126 : Int × Mem) =>
                                if w32 a125 = w32 a126.1 then
                                  some (Sum.inl ((s1.1 + 6), a126.2))
                                else
                                  none
                              else none
                            else
                              if w32 (and32 (xs s1.1.toNat) 127) = 11 then
                                Option.bind (f9_all s1.2) fun (a123 : Int) =>
                                Option.bind (f10_all s1.2) fun (a124 : Int × Mem) =>
                                if w32 a123 = w32 a124.1 then
                                  some (Sum.inl ((s1.1 + 6), a124.2))
                                else
                                  none
                              else
                                if w32 (and32 (xs s1.1.toNat) 127) = 12 then
                                  Option.bind (f9_worst s1.2) fun (a121 : Int) =>
                                  Option.bind (f10_worst s1.2) fun (a122 : Int × Mem) =>
                                  if w32 a121 = w32 a122.1 then
                                    some (Sum.inl ((s1.1 + 6), a122.2))
                                  else
                                    none
                                else
                                  if w32 (and32 (xs s1.1.toNat) 127) = 13 then
                                    Option.bind (f9_crowded s1.2) fun (a119 : Int) =>
                                    Option.bind (f10_crowded s1.2) fun (a120 : Int × Mem) =>
                                    if w32 a119 = w32 a120.1 then
                                      some (Sum.inl ((s1.1 + 6), a120.2))
                                    else
                                      none
                                  else
                                    if w32 (and32 (xs s1.1.toNat) 127) = 14 then
                                      if 0 ≤ (s1.1 + 1) ∧ (s1.1 + 1) < (L : Int) then
                                        Option.bind (f9_holds s1.2 (xs (s1.1 + 1).toNat)) fun (a117 : Int) =>
                                        Option.bind (f10_holds s1.2 (xs (s1.1 + 1).toNat)) fun (a118 : Int × Mem) =>
                                        if w32 a117 = w32 a118.1 then
                                          some (Sum.inl ((s1.1 + 6), a118.2))
                                        else
                                          none
                                      else none
                                    else
                                      if w32 (and32 (xs s1.1.toNat) 127) = 15 then
                                        if 0 ≤ (s1.1 + 1) ∧ (s1.1 + 1) < (L : Int) then
                                          Option.bind (f9_cut s1.2 (xs (s1.1 + 1).toNat)) fun (a115 : Int) =>
                                          Option.bind (f10_cut s1.2 (xs (s1.1 + 1).toNat)) fun (a116 : Int × Mem) =>
                                          if w32 a115 = w32 a116.1 then
                                            some (Sum.inl ((s1.1 + 6), a116.2))
                                          else
                                            none
                                        else none
                                      else
                                        if w32 (and32 (xs s1.1.toNat) 127) = 16 then
                                          Option.bind (f9_feast s1.2) fun (a113 : Int) =>
                                          Option.bind (f10_feast s1.2) fun (a114 : Int × Mem) =>
                                          if w32 a113 = w32 a114.1 then
                                            some (Sum.inl ((s1.1 + 6), a114.2))
                                          else
                                            none
                                        else
                                          if w32 (and32 (xs s1.1.toNat) 127) = 17 then
                                            Option.bind (f9_paid s1.2) fun (a111 : Int) =>
                                            Option.bind (f10_paid s1.2) fun (a112 : Int × Mem) =>
                                            if w32 a111 = w32 a112.1 then
                                              some (Sum.inl ((s1.1 + 6), a112.2))
                                            else
                                              none
                                          else
                                            if w32 (and32 (xs s1.1.toNat) 127) = 18 then
                                              Option.bind (f9_quiet s1.2) fun (a109 : Int) =>
                                              Option.bind (f10_quiet s1.2) fun (a110 : Int × Mem) =>
                                              if w32 a109 = w32 a110.1 then
                                                some (Sum.inl ((s1.1 + 6), a110.2))
                                              else
                                                none
                                            else
                                              if w32 (and32 (xs s1.1.toNat) 127) = 19 then
                                                Option.bind (f9_kept s1.2) fun (a107 : Int) =>
                                                Option.bind (f10_kept s1.2) fun (a108 : Int × Mem) =>
                                                if w32 a107 = w32 a108.1 then
                                                  some (Sum.inl ((s1.1 + 6), a108.2))
                                                else
                                                  none
                                              else
                                                if w32 (and32 (xs s1.1.toNat) 127) = 20 then
                                                  Option.bind (f9_idle s1.2) fun (a105 : Int) =>
                                                  Option.bind (f10_idle s1.2) fun (a106 : Int × Mem) =>
                                                  if w32 a105 = w32 a106.1 then
                                                    some (Sum.inl ((s1.1 + 6), a106.2))
                                                  else
                                                    none
                                                else
                                                  if w32 (and32 (xs s1.1.toNat) 127) = 21 then
                                                    if 0 ≤ (s1.1 + 1) ∧ (s1.1 + 1) < (L : Int) then
                                                      Option.bind (f9_big s1.2 (xs (s1.1 + 1).toNat)) fun (a103 : Int) =>
                                                      Option.bind (f10_big s1.2 (xs (s1.1 + 1).toNat)) fun (a104 : Int × Mem) =>
                                                      if w32 a103 = w32 a104.1 then
                                                        some (Sum.inl ((s1.1 + 6), a104.2))
                                                      else
                                                        none
                                                    else none
                                                  else
                                                    if w32 (and32 (xs s1.1.toNat) 127) = 22 then
                                                      if 0 ≤ (s1.1 + 1) ∧ (s1.1 + 1) < (L : Int) then
                                                        Option.bind (f9_suits s1.2 (xs (s1.1 + 1).toNat)) fun (a101 : Int × Mem) =>
                                                        Option.bind (f10_suits a101.2 (xs (s1.1 + 1).toNat)) fun (a102 : Int × Mem) =>
                                                        if w32 a101.1 = w32 a102.1 then
                                                          some (Sum.inl ((s1.1 + 6), a102.2))
                                                        else
                                                          none
                                                      else none
                                                    else
                                                      if w32 (and32 (xs s1.1.toNat) 127) = 23 then
                                                        Option.bind (f9_last s1.2) fun (a99 : Int) =>
                                                        Option.bind (f10_last s1.2) fun (a100 : Int × Mem) =>
                                                        if w32 a99 = w32 a100.1 then
                                                          some (Sum.inl ((s1.1 + 6), a100.2))
                                                        else
                                                          none
                                                      else
                                                        if w32 (and32 (xs s1.1.toNat) 127) = 24 then
                                                          if 0 ≤ (s1.1 + 1) ∧ (s1.1 + 1) < (L : Int) then
                                                            Option.bind (f9_gap s1.2 (xs (s1.1 + 1).toNat)) fun (a97 : Int) =>
                                                            Option.bind (f10_gap s1.2 (xs (s1.1 + 1).toNat)) fun (a98 : Int × Mem) =>
                                                            if w32 a97 = w32 a98.1 then
                                                              some (Sum.inl ((s1.1 + 6), a98.2))
                                                            else
                                                              none
                                                          else none
                                                        else
                                                          if w32 (and32 (xs s1.1.toNat) 127) = 25 then
                                                            if 0 ≤ (s1.1 + 1) ∧ (s1.1 + 1) < (L : Int) then
                                                              Option.bind (f9_without s1.2 (xs (s1.1 + 1).toNat)) fun (a95 : Int × Mem) =>
                                                              Option.bind (f10_without a95.2 (xs (s1.1 + 1).toNat)) fun (a96 : Int × Mem) =>
                                                              if w32 a95.1 = w32 a96.1 then
                                                                some (Sum.inl ((s1.1 + 6), a96.2))
                                                              else
                                                                none
                                                            else none
                                                          else
                                                            if w32 (and32 (xs s1.1.toNat) 127) = 26 then
                                                              if 0 ≤ (s1.1 + 1) ∧ (s1.1 + 1) < (L : Int) then
                                                                Option.bind (f9_blocks s1.2 (xs (s1.1 + 1).toNat)) fun (a93 : Int × Mem) =>
                                                                Option.bind (f10_blocks a93.2 (xs (s1.1 + 1).toNat)) fun (a94 : Int × Mem) =>
                                                                if w32 a93.1 = w32 a94.1 then
                                                                  some (Sum.inl ((s1.1 + 6), a94.2))
                                                                else
                                                                  none
                                                              else none
                                                            else
                                                              if w32 (and32 (xs s1.1.toNat) 127) = 27 then
                                                                if 0 ≤ (s1.1 + 1) ∧ (s1.1 + 1) < (L : Int) then
                                                                  Option.bind (f9_when s1.2 (xs (s1.1 + 1).toNat)) fun (a91 : Int) =>
                                                                  Option.bind (f10_when s1.2 (xs (s1.1 + 1).toNat)) fun (a92 : Int × Mem) =>
                                                                  if w32 a91 = w32 a92.1 then
                                                                    some (Sum.inl ((s1.1 + 6), a92.2))
                                                                  else
                                                                    none
                                                                else none
                                                              else
                                                                if w32 (and32 (xs s1.1.toNat) 127) = 28 then
                                                                  if 0 ≤ (s1.1 + 1) ∧ (s1.1 + 1) < (L : Int) then
                                                                    if 0 ≤ (s1.1 + 2) ∧ (s1.1 + 2) < (L : Int) then
                                                                      Option.bind (f9_share s1.2 (xs (s1.1 + 1).toNat) (xs (s1.1 + 2).toNat)) fun (a89 : Int) =>
                                                                      Option.bind (f10_share s1.2 (xs (s1.1 + 1).toNat) (xs (s1.1 + 2).toNat)) fun (a90 : Int × Mem) =>
                                                                      if w32 a89 = w32 a90.1 then
                                                                        some (Sum.inl ((s1.1 + 6), a90.2))
                                                                      else
                                                                        none
                                                                    else none
                                                                  else none
                                                                else
                                                                  if w32 (and32 (xs s1.1.toNat) 127) = 29 then
                                                                    Option.bind (f9_wide s1.2) fun (a87 : Int × Mem) =>
                                                                    Option.bind (f10_wide a87.2) fun (a88 : Int × Mem) =>
                                                                    if w32 a87.1 = w32 a88.1 then
                                                                      some (Sum.inl ((s1.1 + 6), a88.2))
                                                                    else
                                                                      none
                                                                  else
                                                                    if w32 (and32 (xs s1.1.toNat) 127) = 30 then
                                                                      if 0 ≤ (s1.1 + 1) ∧ (s1.1 + 1) < (L : Int) then
                                                                        Option.bind (f9_mild s1.2 (xs (s1.1 + 1).toNat)) fun (a85 : Int) =>
                                                                        Option.bind (f10_mild s1.2 (xs (s1.1 + 1).toNat)) fun (a86 : Int × Mem) =>
                                                                        if w32 a85 = w32 a86.1 then
                                                                          some (Sum.inl ((s1.1 + 6), a86.2))
                                                                        else
                                                                          none
                                                                      else none
                                                                    else
                                                                      if w32 (and32 (xs s1.1.toNat) 127) = 31 then
                                                                        Option.bind (f9_regret s1.2) fun (a83 : Int × Mem) =>
                                                                        Option.bind (f10_regret a83.2) fun (a84 : Int × Mem) =>
                                                                        if w32 a83.1 = w32 a84.1 then
                                                                          some (Sum.inl ((s1.1 + 6), a84.2))
                                                                        else
                                                                          none
                                                                      else
                                                                        if w32 (and32 (xs s1.1.toNat) 127) = 32 then
                                                                          Option.bind (f9_spoons s1.2) fun (a81 : Int × Mem) =>
                                                                          Option.bind (f10_spoons a81.2) fun (a82 : Int × Mem) =>
                                                                          if w32 a81.1 = w32 a82.1 then
                                                                            some (Sum.inl ((s1.1 + 6), a82.2))
                                                                          else
                                                                            none
                                                                        else
                                                                          if w32 (and32 (xs s1.1.toNat) 127) = 33 then
                                                                            Option.bind (f9_lonely s1.2) fun (a79 : Int × Mem) =>
                                                                            Option.bind (f10_lonely a79.2) fun (a80 : Int × Mem) =>
                                                                            if w32 a79.1 = w32 a80.1 then
                                                                              some (Sum.inl ((s1.1 + 6), a80.2))
                                                                            else
                                                                              none
                                                                          else
                                                                            if w32 (and32 (xs s1.1.toNat) 127) = 34 then
                                                                              if 0 ≤ (s1.1 + 1) ∧ (s1.1 + 1) < (L : Int) then
                                                                                Option.bind (f9_costs s1.2 (xs (s1.1 + 1).toNat)) fun (a77 : Int × Mem) =>
                                                                                Option.bind (f10_costs a77.2 (xs (s1.1 + 1).toNat)) fun (a78 : Int × Mem) =>
                                                                                if w32 a77.1 = w32 a78.1 then
                                                                                  some (Sum.inl ((s1.1 + 6), a78.2))
                                                                                else
                                                                                  none
                                                                              else none
                                                                            else
                                                                              if w32 (and32 (xs s1.1.toNat) 127) = 35 then
                                                                                Option.bind (f9_least s1.2) fun (a75 : Int × Mem) =>
                                                                                Option.bind (f10_least a75.2) fun (a76 : Int × Mem) =>
                                                                                if w32 a75.1 = w32 a76.1 then
                                                                                  some (Sum.inl ((s1.1 + 6), a76.2))
                                                                                else
                                                                                  none
                                                                              else
                                                                                if w32 (and32 (xs s1.1.toNat) 127) = 36 then
                                                                                  if 0 ≤ (s1.1 + 1) ∧ (s1.1 + 1) < (L : Int) then
                                                                                    Option.bind (f9_plan s1.2 (xs (s1.1 + 1).toNat)) fun (a73 : Int × Mem) =>
                                                                                    Option.bind (f10_plan a73.2 (xs (s1.1 + 1).toNat)) fun (a74 : Int × Mem) =>
                                                                                    if w32 a73.1 = w32 a74.1 then
                                                                                      some (Sum.inl ((s1.1 + 6), a74.2))
                                                                                    else
                                                                                      none
                                                                                  else none
                                                                                else
                                                                                  if w32 (and32 (xs s1.1.toNat) 127) = 37 then
                                                                                    Option.bind (f9_ways s1.2) fun (a71 : Int × Mem) =>
                                                                                    Option.bind (f10_ways a71.2) fun (a72 : Int × Mem) =>
                                                                                    if w64 a71.1 = w64 a72.1 then
                                                                                      some (Sum.inl ((s1.1 + 6), a72.2))
                                                                                    else
                                                                                      none
                                                                                  else
                                                                                    if w32 (and32 (xs s1.1.toNat) 127) = 38 then
                                                                                      if 0 ≤ (s1.1 + 1) ∧ (s1.1 + 1) < (L : Int) then
                                                                                        Option.bind (f9_room s1.2 (xs (s1.1 + 1).toNat)) fun (a69 : Int × Mem) =>
                                                                                        Option.bind (f10_room a69.2 (xs (s1.1 + 1).toNat)) fun (a70 : Int × Mem) =>
                                                                                        if w32 a69.1 = w32 a70.1 then
                                                                                          some (Sum.inl ((s1.1 + 6), a70.2))
                                                                                        else
                                                                                          none
                                                                                      else none
                                                                                    else
                                                                                      if w32 (and32 (xs s1.1.toNat) 127) = 39 then
                                                                                        if 0 ≤ (s1.1 + 1) ∧ (s1.1 + 1) < (L : Int) then
                                                                                          Option.bind (f9_by s1.2 (xs (s1.1 + 1).toNat)) fun (a67 : Int × Mem) =>
                                                                                          Option.bind (f10_by a67.2 (xs (s1.1 + 1).toNat)) fun (a68 : Int × Mem) =>
                                                                                          if w32 a67.1 = w32 a68.1 then
                                                                                            some (Sum.inl ((s1.1 + 6), a68.2))
                                                                                          else
                                                                                            none
                                                                                        else none
                                                                                      else
                                                                                        if w32 (and32 (xs s1.1.toNat) 127) = 40 then
                                                                                          Option.bind (f9_rule s1.2) fun (a65 : Int × Mem) =>
                                                                                          Option.bind (f10_rule a65.2) fun (a66 : Int × Mem) =>
                                                                                          if w32 a65.1 = w32 a66.1 then
                                                                                            some (Sum.inl ((s1.1 + 6), a66.2))
                                                                                          else
                                                                                            none
                                                                                        else
                                                                                          if w32 (and32 (xs s1.1.toNat) 127) = 41 then
                                                                                            if 0 ≤ (s1.1 + 1) ∧ (s1.1 + 1) < (L : Int) then
                                                                                              Option.bind (f9_groan s1.2 (xs (s1.1 + 1).toNat)) fun (a63 : Int × Mem) =>
                                                                                              Option.bind (f10_groan a63.2 (xs (s1.1 + 1).toNat)) fun (a64 : Int × Mem) =>
                                                                                              if w32 a63.1 = w32 a64.1 then
                                                                                                some (Sum.inl ((s1.1 + 6), a64.2))
                                                                                              else
                                                                                                none
                                                                                            else none
                                                                                          else
                                                                                            if w32 (and32 (xs s1.1.toNat) 127) = 42 then
                                                                                              if 0 ≤ (s1.1 + 1) ∧ (s1.1 + 1) < (L : Int) then
                                                                                                Option.bind (f9_tempts s1.2 (xs (s1.1 + 1).toNat)) fun (a61 : Int × Mem) =>
                                                                                                Option.bind (f10_tempts a61.2 (xs (s1.1 + 1).toNat)) fun (a62 : Int × Mem) =>
                                                                                                if w32 a61.1 = w32 a62.1 then
                                                                                                  some (Sum.inl ((s1.1 + 6), a62.2))
                                                                                                else
                                                                                                  none
                                                                                              else none
                                                                                            else
                                                                                              if w32 (and32 (xs s1.1.toNat) 127) = 43 then
                                                                                                Option.bind (f9_proof s1.2) fun (a59 : Int × Mem) =>
                                                                                                Option.bind (f10_proof a59.2) fun (a60 : Int × Mem) =>
                                                                                                if w32 a59.1 = w32 a60.1 then
                                                                                                  some (Sum.inl ((s1.1 + 6), a60.2))
                                                                                                else
                                                                                                  none
                                                                                              else
                                                                                                if w32 (and32 (xs s1.1.toNat) 127) = 44 then
                                                                                                  Option.bind (f9_pairs s1.2) fun (a57 : Int × Mem) =>
                                                                                                  Option.bind (f10_pairs a57.2) fun (a58 : Int × Mem) =>
                                                                                                  if w32 a57.1 = w32 a58.1 then
                                                                                                    some (Sum.inl ((s1.1 + 6), a58.2))
                                                                                                  else
                                                                                                    none
                                                                                                else
                                                                                                  if w32 (and32 (xs s1.1.toNat) 127) = 45 then
                                                                                                    if 0 ≤ (s1.1 + 1) ∧ (s1.1 + 1) < (L : Int) then
                                                                                                      Option.bind (f9_bearer s1.2 (xs (s1.1 + 1).toNat)) fun (a55 : Int × Mem) =>
                                                                                                      Option.bind (f10_bearer a55.2 (xs (s1.1 + 1).toNat)) fun (a56 : Int × Mem) =>
                                                                                                      if w32 a55.1 = w32 a56.1 then
                                                                                                        some (Sum.inl ((s1.1 + 6), a56.2))
                                                                                                      else
                                                                                                        none
                                                                                                    else none
                                                                                                  else
                                                                                                    if w32 (and32 (xs s1.1.toNat) 127) = 46 then
                                                                                                      if 0 ≤ (s1.1 + 1) ∧ (s1.1 + 1) < (L : Int) then
                                                                                                        Option.bind (f9_kinder s1.2 (xs (s1.1 + 1).toNat)) fun (a53 : Int × Mem) =>
                                                                                                        Option.bind (f10_kinder a53.2 (xs (s1.1 + 1).toNat)) fun (a54 : Int × Mem) =>
                                                                                                        if w32 a53.1 = w32 a54.1 then
                                                                                                          some (Sum.inl ((s1.1 + 6), a54.2))
                                                                                                        else
                                                                                                          none
                                                                                                      else none
                                                                                                    else
                                                                                                      if w32 (and32 (xs s1.1.toNat) 127) = 47 then
                                                                                                        if 0 ≤ (s1.1 + 1) ∧ (s1.1 + 1) < (L : Int) then
                                                                                                          Option.bind (f9_whose s1.2 (xs (s1.1 + 1).toNat)) fun (a51 : Int × Mem) =>
                                                                                                          Option.bind (f10_whose a51.2 (xs (s1.1 + 1).toNat)) fun (a52 : Int × Mem) =>
                                                                                                          if w32 a51.1 = w32 a52.1 then
                                                                                                            some (Sum.inl ((s1.1 + 6), a52.2))
                                                                                                          else
                                                                                                            none
                                                                                                        else none
                                                                                                      else
                                                                                                        if w32 (and32 (xs s1.1.toNat) 127) = 48 then
                                                                                                          if 0 ≤ (s1.1 + 1) ∧ (s1.1 + 1) < (L : Int) then
                                                                                                            Option.bind (f9_fits s1.2 (xs (s1.1 + 1).toNat)) fun (a49 : Int × Mem) =>
                                                                                                            Option.bind (f10_fits a49.2 (xs (s1.1 + 1).toNat)) fun (a50 : Int × Mem) =>
                                                                                                            if w32 a49.1 = w32 a50.1 then
                                                                                                              some (Sum.inl ((s1.1 + 6), a50.2))
                                                                                                            else
                                                                                                              none
                                                                                                          else none
                                                                                                        else
                                                                                                          if w32 (and32 (xs s1.1.toNat) 127) = 49 then
                                                                                                            if 0 ≤ (s1.1 + 1) ∧ (s1.1 + 1) < (L : Int) then
                                                                                                              Option.bind (f9_ask s1.2 (xs (s1.1 + 1).toNat)) fun (a47 : Int × Mem) =>
                                                                                                              Option.bind (f10_ask a47.2 (xs (s1.1 + 1).toNat)) fun (a48 : Int × Mem) =>
                                                                                                              if w32 a47.1 = w32 a48.1 then
                                                                                                                some (Sum.inl ((s1.1 + 6), a48.2))
                                                                                                              else
                                                                                                                none
                                                                                                            else none
                                                                                                          else
                                                                                                            if w32 (and32 (xs s1.1.toNat) 127) = 50 then
                                                                                                              if 0 ≤ (s1.1 + 1) ∧ (s1.1 + 1) < (L : Int) then
                                                                                                                Option.bind (f9_leaves s1.2 (xs (s1.1 + 1).toNat)) fun (a45 : Int × Mem) =>
                                                                                                                Option.bind (f10_leaves a45.2 (xs (s1.1 + 1).toNat)) fun (a46 : Int × Mem) =>
                                                                                                                if w32 a45.1 = w32 a46.1 then
                                                                                                                  some (Sum.inl ((s1.1 + 6), a46.2))
                                                                                                                else
                                                                                                                  none
                                                                                                              else none
                                                                                                            else
                                                                                                              if w32 (and32 (xs s1.1.toNat) 127) = 51 then
                                                                                                                if 0 ≤ (s1.1 + 1) ∧ (s1.1 + 1) < (L : Int) then
                                                                                                                  Option.bind (f9_nights s1.2 (xs (s1.1 + 1).toNat)) fun (a43 : Int × Mem) =>
                                                                                                                  Option.bind (f10_nightsX a43.2 (xs (s1.1 + 1).toNat)) fun (a44 : Int × Mem) =>
                                                                                                                  if w32 a43.1 = w32 a44.1 then
                                                                                                                    some (Sum.inl ((s1.1 + 6), a44.2))
                                                                                                                  else
                                                                                                                    none
                                                                                                                else none
                                                                                                              else
                                                                                                                if w32 (and32 (xs s1.1.toNat) 127) = 52 then
                                                                                                                  if 0 ≤ (s1.1 + 1) ∧ (s1.1 + 1) < (L : Int) then
                                                                                                                    Option.bind (f9_fair s1.2 (xs (s1.1 + 1).toNat)) fun (a41 : Int × Mem) =>
                                                                                                                    Option.bind (f10_fair a41.2 (xs (s1.1 + 1).toNat)) fun (a42 : Int × Mem) =>
                                                                                                                    if w32 a41.1 = w32 a42.1 then
                                                                                                                      some (Sum.inl ((s1.1 + 6), a42.2))
                                                                                                                    else
                                                                                                                      none
                                                                                                                  else none
                                                                                                                else
                                                                                                                  if w32 (and32 (xs s1.1.toNat) 127) = 53 then
                                                                                                                    if 0 ≤ (s1.1 + 1) ∧ (s1.1 + 1) < (L : Int) then
                                                                                                                      Option.bind (f9_leave s1.2 (xs (s1.1 + 1).toNat)) fun (a39 : Int × Mem) =>
                                                                                                                      Option.bind (f10_leave a39.2 (xs (s1.1 + 1).toNat)) fun (a40 : Int × Mem) =>
                                                                                                                      if w32 a39.1 = w32 a40.1 then
                                                                                                                        some (Sum.inl ((s1.1 + 6), a40.2))
                                                                                                                      else
                                                                                                                        none
                                                                                                                    else none
                                                                                                                  else
                                                                                                                    if w32 (and32 (xs s1.1.toNat) 127) = 54 then
                                                                                                                      if 0 ≤ (s1.1 + 1) ∧ (s1.1 + 1) < (L : Int) then
                                                                                                                        if 0 ≤ (s1.1 + 2) ∧ (s1.1 + 2) < (L : Int) then
                                                                                                                          Option.bind (f9_rests s1.2 (xs (s1.1 + 1).toNat) (xs (s1.1 + 2).toNat)) fun (a37 : Int × Mem) =>
                                                                                                                          Option.bind (f10_rests a37.2 (xs (s1.1 + 1).toNat) (xs (s1.1 + 2).toNat)) fun (a38 : Int × Mem) =>
                                                                                                                          if w32 a37.1 = w32 a38.1 then
                                                                                                                            some (Sum.inl ((s1.1 + 6), a38.2))
                                                                                                                          else
                                                                                                                            none
                                                                                                                        else none
                                                                                                                      else none
                                                                                                                    else
                                                                                                                      if w32 (and32 (xs s1.1.toNat) 127) = 55 then
                                                                                                                        if 0 ≤ (s1.1 + 1) ∧ (s1.1 + 1) < (L : Int) then
                                                                                                                          if 0 ≤ (s1.1 + 2) ∧ (s1.1 + 2) < (L : Int) then
                                                                                                                            Option.bind (f9_rest s1.2 (xs (s1.1 + 1).toNat) (xs (s1.1 + 2).toNat)) fun (a35 : Int × Mem) =>
                                                                                                                            Option.bind (f10_rest a35.2 (xs (s1.1 + 1).toNat) (xs (s1.1 + 2).toNat)) fun (a36 : Int × Mem) =>
                                                                                                                            if w32 a35.1 = w32 a36.1 then
                                                                                                                              some (Sum.inl ((s1.1 + 6), a36.2))
                                                                                                                            else
                                                                                                                              none
                                                                                                                          else none
                                                                                                                        else none
                                                                                                                      else
                                                                                                                        if w32 (and32 (xs s1.1.toNat) 127) = 56 then
                                                                                                                          if 0 ≤ (s1.1 + 1) ∧ (s1.1 + 1) < (L : Int) then
                                                                                                                            if 0 ≤ (s1.1 + 2) ∧ (s1.1 + 2) < (L : Int) then
                                                                                                                              if 0 ≤ (s1.1 + 3) ∧ (s1.1 + 3) < (L : Int) then
                                                                                                                                if 0 ≤ (s1.1 + 4) ∧ (s1.1 + 4) < (L : Int) then
                                                                                                                                  Option.bind (f9_holding s1.2 (xs (s1.1 + 1).toNat) (xs (s1.1 + 2).toNat) (xs (s1.1 + 3).toNat) (xs (s1.1 + 4).toNat)) fun (a33 : Int × Mem) =>
                                                                                                                                  Option.bind (f10_holding a33.2 (xs (s1.1 + 1).toNat) (xs (s1.1 + 2).toNat) (xs (s1.1 + 3).toNat) (xs (s1.1 + 4).toNat)) fun (a34 : Int × Mem) =>
                                                                                                                                  if w32 a33.1 = w32 a34.1 then
                                                                                                                                    some (Sum.inl ((s1.1 + 6), a34.2))
                                                                                                                                  else
                                                                                                                                    none
                                                                                                                                else none
                                                                                                                              else none
                                                                                                                            else none
                                                                                                                          else none
                                                                                                                        else
                                                                                                                          if w32 (and32 (xs s1.1.toNat) 127) = 57 then
                                                                                                                            if 0 ≤ (s1.1 + 1) ∧ (s1.1 + 1) < (L : Int) then
                                                                                                                              if 0 ≤ (s1.1 + 2) ∧ (s1.1 + 2) < (L : Int) then
                                                                                                                                Option.bind (f9_born s1.2 (xs (s1.1 + 1).toNat) (xs (s1.1 + 2).toNat)) fun (a31 : Int) =>
                                                                                                                                Option.bind (f10_born s1.2 (xs (s1.1 + 1).toNat) (xs (s1.1 + 2).toNat)) fun (a32 : Int) =>
                                                                                                                                if w64 a31 = w64 a32 then
                                                                                                                                  some (Sum.inl ((s1.1 + 6), s1.2))
                                                                                                                                else
                                                                                                                                  none
                                                                                                                              else none
                                                                                                                            else none
                                                                                                                          else
                                                                                                                            if w32 (and32 (xs s1.1.toNat) 127) = 58 then
                                                                                                                              if 0 ≤ (s1.1 + 1) ∧ (s1.1 + 1) < (L : Int) then
                                                                                                                                Option.bind (f9_mean s1.2 (xs (s1.1 + 1).toNat)) fun (a29 : Int × Mem) =>
                                                                                                                                Option.bind (f10_mean a29.2 (xs (s1.1 + 1).toNat)) fun (a30 : Int × Mem) =>
                                                                                                                                if w64 a29.1 = w64 a30.1 then
                                                                                                                                  some (Sum.inl ((s1.1 + 6), a30.2))
                                                                                                                                else
                                                                                                                                  none
                                                                                                                              else none
                                                                                                                            else
                                                                                                                              if w32 (and32 (xs s1.1.toNat) 127) = 59 then
                                                                                                                                if 0 ≤ (s1.1 + 1) ∧ (s1.1 + 1) < (L : Int) then
                                                                                                                                  Option.bind (f9_late s1.2 (xs (s1.1 + 1).toNat)) fun (a27 : Int × Mem) =>
                                                                                                                                  Option.bind (f10_late a27.2 (xs (s1.1 + 1).toNat)) fun (a28 : Int × Mem) =>
                                                                                                                                  if w32 a27.1 = w32 a28.1 then
                                                                                                                                    some (Sum.inl ((s1.1 + 6), a28.2))
                                                                                                                                  else
                                                                                                                                    none
                                                                                                                                else none
                                                                                                                              else
                                                                                                                                if w32 (and32 (xs s1.1.toNat) 127) = 60 then
                                                                                                                                  if 0 ≤ (s1.1 + 1) ∧ (s1.1 + 1) < (L : Int) then
                                                                                                                                    if 0 ≤ (s1.1 + 2) ∧ (s1.1 + 2) < (L : Int) then
                                                                                                                                      Option.bind (f9_ache s1.2 (xs (s1.1 + 1).toNat) (xs (s1.1 + 2).toNat)) fun (a25 : Int × Mem) =>
                                                                                                                                      Option.bind (f10_ache a25.2 (xs (s1.1 + 1).toNat) (xs (s1.1 + 2).toNat)) fun (a26 : Int × Mem) =>
                                                                                                                                      if w32 a25.1 = w32 a26.1 then
                                                                                                                                        some (Sum.inl ((s1.1 + 6), a26.2))
                                                                                                                                      else
                                                                                                                                        none
                                                                                                                                    else none
                                                                                                                                  else none
                                                                                                                                else
                                                                                                                                  if w32 (and32 (xs s1.1.toNat) 127) = 61 then
                                                                                                                                    if 0 ≤ (s1.1 + 1) ∧ (s1.1 + 1) < (L : Int) then
                                                                                                                                      if 0 ≤ (s1.1 + 2) ∧ (s1.1 + 2) < (L : Int) then
                                                                                                                                        Option.bind (f9_comes s1.2 (xs (s1.1 + 1).toNat) (xs (s1.1 + 2).toNat)) fun (a23 : Int × Mem) =>
                                                                                                                                        Option.bind (f10_comes a23.2 (xs (s1.1 + 1).toNat) (xs (s1.1 + 2).toNat)) fun (a24 : Int × Mem) =>
                                                                                                                                        if w32 a23.1 = w32 a24.1 then
                                                                                                                                          some (Sum.inl ((s1.1 + 6), a24.2))
                                                                                                                                        else
                                                                                                                                          none
                                                                                                                                      else none
                                                                                                                                    else none
                                                                                                                                  else
                                                                                                                                    if w32 (and32 (xs s1.1.toNat) 127) = 62 then
                                                                                                                                      Option.bind (f9_undo s1.2) fun (a21 : Int × Mem) =>
                                                                                                                                      Option.bind (f10_undo a21.2) fun (a22 : Int × Mem) =>
                                                                                                                                      if w32 a21.1 = w32 a22.1 then
                                                                                                                                        some (Sum.inl ((s1.1 + 6), a22.2))
                                                                                                                                      else
                                                                                                                                        none
                                                                                                                                    else
                                                                                                                                      if w32 (and32 (xs s1.1.toNat) 127) = 63 then
                                                                                                                                        Option.bind (f9_anew s1.2) fun (a19 : Int × Mem) =>
                                                                                                                                        Option.bind (f10_anew a19.2) fun (a20 : Int × Mem) =>
                                                                                                                                        if w32 a19.1 = w32 a20.1 then
                                                                                                                                          some (Sum.inl ((s1.1 + 6), a20.2))
                                                                                                                                        else
                                                                                                                                          none
                                                                                                                                      else
                                                                                                                                        if w32 (and32 (xs s1.1.toNat) 127) = 64 then
                                                                                                                                          if 0 ≤ (s1.1 + 1) ∧ (s1.1 + 1) < (L : Int) then
                                                                                                                                            if 0 ≤ (s1.1 + 2) ∧ (s1.1 + 2) < (L : Int) then
                                                                                                                                              Option.bind (f9_drawn s1.2 (xs (s1.1 + 1).toNat) (xs (s1.1 + 2).toNat)) fun (a17 : Int × Mem) =>
                                                                                                                                              Option.bind (f10_drawn a17.2 (xs (s1.1 + 1).toNat) (xs (s1.1 + 2).toNat)) fun (a18 : Int × Mem) =>
                                                                                                                                              if w32 a17.1 = w32 a18.1 then
                                                                                                                                                some (Sum.inl ((s1.1 + 6), a18.2))
                                                                                                                                              else
                                                                                                                                                none
                                                                                                                                            else none
                                                                                                                                          else none
                                                                                                                                        else
                                                                                                                                          if w32 (and32 (xs s1.1.toNat) 127) = 65 then
                                                                                                                                            if 0 ≤ (s1.1 + 1) ∧ (s1.1 + 1) < (L : Int) then
                                                                                                                                              if 0 ≤ (s1.1 + 2) ∧ (s1.1 + 2) < (L : Int) then
                                                                                                                                                if 0 ≤ (s1.1 + 3) ∧ (s1.1 + 3) < (L : Int) then
                                                                                                                                                  Option.bind (f9_luck s1.2 (xs (s1.1 + 1).toNat) (xs (s1.1 + 2).toNat) (xs (s1.1 + 3).toNat)) fun (a15 : Int × Mem) =>
                                                                                                                                                  Option.bind (f10_luck a15.2 (xs (s1.1 + 1).toNat) (xs (s1.1 + 2).toNat) (xs (s1.1 + 3).toNat)) fun (a16 : Int × Mem) =>
                                                                                                                                                  if w32 a15.1 = w32 a16.1 then
                                                                                                                                                    some (Sum.inl ((s1.1 + 6), a16.2))
                                                                                                                                                  else
                                                                                                                                                    none
                                                                                                                                                else none
                                                                                                                                              else none
                                                                                                                                            else none
                                                                                                                                          else
                                                                                                                                            if w32 (and32 (xs s1.1.toNat) 127) = 66 then
                                                                                                                                              if 0 ≤ (s1.1 + 1) ∧ (s1.1 + 1) < (L : Int) then
                                                                                                                                                Option.bind (f9_widen s1.2 (xs (s1.1 + 1).toNat)) fun (a13 : Int × Mem) =>
                                                                                                                                                Option.bind (f10_widen a13.2 (xs (s1.1 + 1).toNat)) fun (a14 : Int × Mem) =>
                                                                                                                                                if w32 a13.1 = w32 a14.1 then
                                                                                                                                                  some (Sum.inl ((s1.1 + 6), a14.2))
                                                                                                                                                else
                                                                                                                                                  none
                                                                                                                                              else none
                                                                                                                                            else
                                                                                                                                              if w32 (and32 (xs s1.1.toNat) 127) = 67 then
                                                                                                                                                if 0 ≤ (s1.1 + 1) ∧ (s1.1 + 1) < (L : Int) then
                                                                                                                                                  Option.bind (f9_count s1.2 (xs (s1.1 + 1).toNat)) fun (a11 : Int) =>
                                                                                                                                                  Option.bind (f10_count s1.2 (xs (s1.1 + 1).toNat)) fun (a12 : Int) =>
                                                                                                                                                  if w32 a11 = w32 a12 then
                                                                                                                                                    some (Sum.inl ((s1.1 + 6), s1.2))
                                                                                                                                                  else
                                                                                                                                                    none
                                                                                                                                                else none
                                                                                                                                              else
                                                                                                                                                if w32 (and32 (xs s1.1.toNat) 127) = 68 then
                                                                                                                                                  if 0 ≤ (s1.1 + 1) ∧ (s1.1 + 1) < (L : Int) then
                                                                                                                                                    Option.bind (f9_image s1.2 (xs (s1.1 + 1).toNat)) fun (a9 : Int × Mem) =>
                                                                                                                                                    Option.bind (f10_image a9.2 (xs (s1.1 + 1).toNat)) fun (a10 : Int × Mem) =>
                                                                                                                                                    if w32 a9.1 = w32 a10.1 then
                                                                                                                                                      some (Sum.inl ((s1.1 + 6), a10.2))
                                                                                                                                                    else
                                                                                                                                                      none
                                                                                                                                                  else none
                                                                                                                                                else
                                                                                                                                                  if w32 (and32 (xs s1.1.toNat) 127) = 69 then
                                                                                                                                                    if 0 ≤ (s1.1 + 1) ∧ (s1.1 + 1) < (L : Int) then
                                                                                                                                                      Option.bind (f9_back s1.2 (xs (s1.1 + 1).toNat)) fun (a7 : Int × Mem) =>
                                                                                                                                                      Option.bind (f10_back a7.2 (xs (s1.1 + 1).toNat)) fun (a8 : Int × Mem) =>
                                                                                                                                                      if w32 a7.1 = w32 a8.1 then
                                                                                                                                                        some (Sum.inl ((s1.1 + 6), a8.2))
                                                                                                                                                      else
                                                                                                                                                        none
                                                                                                                                                    else none
                                                                                                                                                  else
                                                                                                                                                    if w32 (and32 (xs s1.1.toNat) 127) = 70 then
                                                                                                                                                      if 0 ≤ (s1.1 + 1) ∧ (s1.1 + 1) < (L : Int) then
                                                                                                                                                        if 0 ≤ (s1.1 + 2) ∧ (s1.1 + 2) < (L : Int) then
                                                                                                                                                          if 0 ≤ (s1.1 + 3) ∧ (s1.1 + 3) < (L : Int) then
                                                                                                                                                            Option.bind (f9_row s1.2 (xs (s1.1 + 1).toNat) (xs (s1.1 + 2).toNat) (xs (s1.1 + 3).toNat)) fun (a5 : Int × Mem) =>
                                                                                                                                                            Option.bind (f10_row a5.2 (xs (s1.1 + 1).toNat) (xs (s1.1 + 2).toNat) (xs (s1.1 + 3).toNat)) fun (a6 : Int × Mem) =>
                                                                                                                                                            if w32 a5.1 = w32 a6.1 then
                                                                                                                                                              some (Sum.inl ((s1.1 + 6), a6.2))
                                                                                                                                                            else
                                                                                                                                                              none
                                                                                                                                                          else none
                                                                                                                                                        else none
                                                                                                                                                      else none
                                                                                                                                                    else
                                                                                                                                                      if w32 (and32 (xs s1.1.toNat) 127) = 71 then
                                                                                                                                                        if 0 ≤ (s1.1 + 1) ∧ (s1.1 + 1) < (L : Int) then
                                                                                                                                                          if 0 ≤ (s1.1 + 2) ∧ (s1.1 + 2) < (L : Int) then
                                                                                                                                                            if 0 ≤ (s1.1 + 3) ∧ (s1.1 + 3) < (L : Int) then
                                                                                                                                                              if 0 ≤ (s1.1 + 4) ∧ (s1.1 + 4) < (L : Int) then
                                                                                                                                                                Option.bind (f9_write s1.2 (xs (s1.1 + 1).toNat) (xs (s1.1 + 2).toNat) (or64 (shl64 (w32 (xs (s1.1 + 3).toNat)) 32) (and64 (w32 (xs (s1.1 + 4).toNat)) 4294967295))) fun (a3 : Int × Mem) =>
                                                                                                                                                                Option.bind (f10_write a3.2 (xs (s1.1 + 1).toNat) (xs (s1.1 + 2).toNat) (or64 (shl64 (w32 (xs (s1.1 + 3).toNat)) 32) (and64 (w32 (xs (s1.1 + 4).toNat)) 4294967295))) fun (a4 : Int × Mem) =>
                                                                                                                                                                if w32 a3.1 = w32 a4.1 then
                                                                                                                                                                  some (Sum.inl ((s1.1 + 6), a4.2))
                                                                                                                                                                else
                                                                                                                                                                  none
                                                                                                                                                              else none
                                                                                                                                                            else none
                                                                                                                                                          else none
                                                                                                                                                        else none
                                                                                                                                                      else
                                                                                                                                                        if w32 (and32 (xs s1.1.toNat) 127) = 72 then
                                                                                                                                                          if 0 ≤ (s1.1 + 1) ∧ (s1.1 + 1) < (L : Int) then
                                                                                                                                                            if 0 ≤ (s1.1 + 2) ∧ (s1.1 + 2) < (L : Int) then
                                                                                                                                                              if 0 ≤ (s1.1 + 3) ∧ (s1.1 + 3) < (L : Int) then
                                                                                                                                                                if 0 ≤ (s1.1 + 4) ∧ (s1.1 + 4) < (L : Int) then
                                                                                                                                                                  if 0 ≤ (s1.1 + 5) ∧ (s1.1 + 5) < (L : Int) then
                                                                                                                                                                    Option.bind (f9_paste s1.2 (xs (s1.1 + 1).toNat) (xs (s1.1 + 2).toNat) (xs (s1.1 + 3).toNat) (xs (s1.1 + 4).toNat) (xs (s1.1 + 5).toNat)) fun (a1 : Int × Mem) =>
                                                                                                                                                                    Option.bind (f10_paste a1.2 (xs (s1.1 + 1).toNat) (xs (s1.1 + 2).toNat) (xs (s1.1 + 3).toNat) (xs (s1.1 + 4).toNat) (xs (s1.1 + 5).toNat)) fun (a2 : Int × Mem) =>
                                                                                                                                                                    if w32 a1.1 = w32 a2.1 then
                                                                                                                                                                      some (Sum.inl ((s1.1 + 6), a2.2))
                                                                                                                                                                    else
                                                                                                                                                                      none
                                                                                                                                                                  else none
                                                                                                                                                                else none
                                                                                                                                                              else none
                                                                                                                                                            else none
                                                                                                                                                          else none
                                                                                                                                                        else
                                                                                                                                                          some (Sum.inl ((s1.1 + 6), s1.2))
      else none
  ) FU (0, D)) (fun z => Sum.elim (fun (b1 : Mem) =>
    some ()
  ) (fun rv => some ()) z)
set_option maxHeartbeats 40000000 in
set_option maxRecDepth 100000 in
theorem ok11_law {K : KT} {X : XT} {b L : Nat} {xs32 : Nat → Int32} {xs : Nat → Int} {D : Mem} (hxs : ∀ j, (xs32 j).toInt = xs j) (F : Fx K X 11 code 4 ret room_1) (hR : K.R = room_1 ∧ K.args = #[Value.ref b] ∧ X.B = K.s.heap.size ∧ 147 ≤ 600000 ∧ 18576 ≤ 7302250) (hL : L ≤ 3072) (hX : va_X b L xs32 K.s K.s.heap) (hbl : b < X.B ∧ b < K.s.heap.size) (h : wpo (f11_law xs L D) (fun _ => True)) :
    At K X (lw_Z K.below #[Value.ref b] K.s) 147 18576 147 rt 4 18 [(0, Value.ref b), (1, vR X 0), (2, vR X 117), (3, vI 0)] [] D := by
  unfold f11_law at h
  refine at_loopj (A := fun (s1 : Int × Mem) => At K X (lw_Z K.below #[Value.ref b] K.s) 147 18576 147 rt 4 18 [(0, Value.ref b), (1, vR X 0), (2, vR X 117), (3, vI s1.1)] [] s1.2) (B := Sum.elim (fun (b1 : Mem) => At K X (lw_Z K.below #[Value.ref b] K.s) 147 18576 147 rt 4 2098 [] [] b1) (fun rv => True)) h (fun z h => ?_) (fun s1 h => ?_)
  · rcases z with b1 | rv
    · replace h := elim_l h
      refine el_li ?_
      refine r_iconst F (z := 1) d11_law_2098 ?_
      exact lw_end F hR d11_law_2099
    · replace h := elim_r h
      replace h := wpo_some h
      exact el_ri h
  · refine r_iload_n F 3 rfl rfl d11_law_18 ?_
    refine r_aload_n F 0 rfl rfl d11_law_19 ?_
    refine r_slen F hX hbl d11_law_20 ?_
    refine r_bipush F (z := 6) (by decide) d11_law_21 ?_
    refine r_isub F d11_law_23 ?_
    refine r_icmp_gt F (tgt := 2098) d11_law_24 (by decide) (fun hb => ?_) (fun hb => ?_)
    · replace h := wpo_pos h hb
      refine r_weak [] rfl ?_
      replace h := wpo_inr h
      replace h := el_l h
      exact h
    · replace h := wpo_neg h hb
      refine r_aload_n F 0 rfl rfl d11_law_27 ?_
      refine r_iload_n F 3 rfl rfl d11_law_28 ?_
      obtain ⟨hx1, h⟩ := wpo_chk h
      refine r_sld F hL hX hbl hxs hx1 d11_law_29 ?_
      refine r_bipush F (z := 127) (by decide) d11_law_30 ?_
      refine r_iand F d11_law_32 ?_
      by_cases hb0 : w32 (and32 (xs s1.1.toNat) 127) = 0
      · replace h := wpo_pos h hb0
        refine r_tabIn F 0 hb0 d11_law_33 (by decide) (by decide) rfl (tgt := 340) (by decide) ?_
        refine r_aload_nR F 1 rfl rfl d11_law_340 ?_
        refine r_aload_n F 0 rfl rfl d11_law_341 ?_
        refine r_iload_n F 3 rfl rfl d11_law_342 ?_
        refine r_iconst F (z := 1) d11_law_343 ?_
        refine r_iadd F d11_law_344 ?_
        obtain ⟨hx75, h⟩ := wpo_chk h
        refine r_sld F hL hX hbl hxs hx75 d11_law_345 ?_
        refine r_aload_n F 0 rfl rfl d11_law_346 ?_
        refine r_iload_n F 3 rfl rfl d11_law_347 ?_
        refine r_iconst F (z := 2) d11_law_348 ?_
        refine r_iadd F d11_law_349 ?_
        obtain ⟨hx76, h⟩ := wpo_chk h
        refine r_sld F hL hX hbl hxs hx76 d11_law_350 ?_
        refine r_aload_n F 0 rfl rfl d11_law_351 ?_
        refine r_iload_n F 3 rfl rfl d11_law_352 ?_
        refine r_iconst F (z := 3) d11_law_353 ?_
        refine r_iadd F d11_law_354 ?_
        obtain ⟨hx77, h⟩ := wpo_chk h
        refine r_sld F hL hX hbl hxs hx77 d11_law_355 ?_
        refine r_aload_n F 0 rfl rfl d11_law_356 ?_
        refine r_iload_n F 3 rfl rfl d11_law_357 ?_
        refine r_iconst F (z := 4) d11_law_358 ?_
        refine r_iadd F d11_law_359 ?_
        obtain ⟨hx78, h⟩ := wpo_chk h
        refine r_sld F hL hX hbl hxs hx78 d11_law_360 ?_
        refine r_aload_n F 0 rfl rfl d11_law_361 ?_
        refine r_iload_n F 3 rfl rfl d11_law_362 ?_
        refine r_iconst F (z := 5) d11_law_363 ?_
        refine r_iadd F d11_law_364 ?_
        obtain ⟨hx79, h⟩ := wpo_chk h
        refine r_sld F hL hX hbl hxs hx79 d11_law_365 ?_
        replace h := wpo_bind h
        refine r_callV0 F lm11_13 mf9_feed (vc0 (by decide)) rfl (fr := 1) (lo := 22) (As := [vI (xs (s1.1 + 1).toNat), vI (xs (s1.1 + 2).toNat), vI (xs (s1.1 + 3).toNat), vI (xs (s1.1 + 4).toNat), vI (xs (s1.1 + 5).toNat)]) (rest := []) ⟨Nat.le_of_ble_eq_true rfl, Nat.le_of_ble_eq_true rfl⟩ rfl (Nat.le_of_ble_eq_true rfl) ⟨Nat.le_of_ble_eq_true rfl, Nat.le_of_ble_eq_true rfl⟩ d11_law_366 ?_
        refine ok9_feed (by decide)  (kIm h (fun a145 h => ?_))
        refine r_aload_nR F 2 rfl rfl d11_law_369 ?_
        refine r_aload_n F 0 rfl rfl d11_law_370 ?_
        refine r_iload_n F 3 rfl rfl d11_law_371 ?_
        refine r_iconst F (z := 1) d11_law_372 ?_
        refine r_iadd F d11_law_373 ?_
        refine r_sld F hL hX hbl hxs hx75 d11_law_374 ?_
        refine r_aload_n F 0 rfl rfl d11_law_375 ?_
        refine r_iload_n F 3 rfl rfl d11_law_376 ?_
        refine r_iconst F (z := 2) d11_law_377 ?_
        refine r_iadd F d11_law_378 ?_
        refine r_sld F hL hX hbl hxs hx76 d11_law_379 ?_
        refine r_aload_n F 0 rfl rfl d11_law_380 ?_
        refine r_iload_n F 3 rfl rfl d11_law_381 ?_
        refine r_iconst F (z := 3) d11_law_382 ?_
        refine r_iadd F d11_law_383 ?_
        refine r_sld F hL hX hbl hxs hx77 d11_law_384 ?_
        refine r_aload_n F 0 rfl rfl d11_law_385 ?_
        refine r_iload_n F 3 rfl rfl d11_law_386 ?_
        refine r_iconst F (z := 4) d11_law_387 ?_
        refine r_iadd F d11_law_388 ?_
        refine r_sld F hL hX hbl hxs hx78 d11_law_389 ?_
        refine r_aload_n F 0 rfl rfl d11_law_390 ?_
        refine r_iload_n F 3 rfl rfl d11_law_391 ?_
        refine r_iconst F (z := 5) d11_law_392 ?_
        refine r_iadd F d11_law_393 ?_
        refine r_sld F hL hX hbl hxs hx79 d11_law_394 ?_
        replace h := wpo_bind h
        refine r_callV0 F lm11_17 mf10_feed (vc117 (by decide)) rfl (fr := 0) (lo := 0) (As := [vI (xs (s1.1 + 1).toNat), vI (xs (s1.1 + 2).toNat), vI (xs (s1.1 + 3).toNat), vI (xs (s1.1 + 4).toNat), vI (xs (s1.1 + 5).toNat)]) (rest := [vI a145.1]) ⟨Nat.le_of_ble_eq_true rfl, Nat.le_of_ble_eq_true rfl⟩ rfl (Nat.le_of_ble_eq_true rfl) ⟨Nat.le_of_ble_eq_true rfl, Nat.le_of_ble_eq_true rfl⟩ d11_law_395 ?_
        refine ok10_feed (by decide)  (kIm h (fun a146 h => ?_))
        refine r_icmp_eq F (tgt := 2092) d11_law_398 (by decide) (fun hb => ?_) (fun hb => ?_)
        · replace h := wpo_pos h hb
          refine r_iinc F 3 (lv' := [(3, vI (s1.1 + 6)), (0, Value.ref b), (1, vR X 0), (2, vR X 117)]) rfl (Nat.le_of_ble_eq_true rfl) rfl d11_law_2092 ?_
          refine r_goto F (tgt := 18) (by decide) d11_law_2095 ?_
          refine r_weak [1, 2, 3, 0] rfl ?_
          replace h := wpo_inl h
          exact h
        · replace h := wpo_neg h hb
          refine r_iconst F (z := 0) d11_law_401 ?_
          exact (wpo_none h).elim
      · replace h := wpo_neg h hb0
        by_cases hb1 : w32 (and32 (xs s1.1.toNat) 127) = 1
        · replace h := wpo_pos h hb1
          refine r_tabIn F 1 hb1 d11_law_33 (by decide) (by decide) rfl (tgt := 403) (by decide) ?_
          refine r_aload_nR F 1 rfl rfl d11_law_403 ?_
          refine r_aload_n F 0 rfl rfl d11_law_404 ?_
          refine r_iload_n F 3 rfl rfl d11_law_405 ?_
          refine r_iconst F (z := 1) d11_law_406 ?_
          refine r_iadd F d11_law_407 ?_
          obtain ⟨hx74, h⟩ := wpo_chk h
          refine r_sld F hL hX hbl hxs hx74 d11_law_408 ?_
          replace h := wpo_bind h
          refine r_callV0 F lm11_18 mf9_end (vc0 (by decide)) rfl (fr := 0) (lo := 0) (As := [vI (xs (s1.1 + 1).toNat)]) (rest := []) ⟨Nat.le_of_ble_eq_true rfl, Nat.le_of_ble_eq_true rfl⟩ rfl (Nat.le_of_ble_eq_true rfl) ⟨Nat.le_of_ble_eq_true rfl, Nat.le_of_ble_eq_true rfl⟩ d11_law_409 ?_
          refine ok9_end (by decide)  (kIm h (fun a143 h => ?_))
          refine r_aload_nR F 2 rfl rfl d11_law_412 ?_
          refine r_aload_n F 0 rfl rfl d11_law_413 ?_
          refine r_iload_n F 3 rfl rfl d11_law_414 ?_
          refine r_iconst F (z := 1) d11_law_415 ?_
          refine r_iadd F d11_law_416 ?_
          refine r_sld F hL hX hbl hxs hx74 d11_law_417 ?_
          replace h := wpo_bind h
          refine r_callV0 F lm11_22 mf10_end (vc117 (by decide)) rfl (fr := 1) (lo := 25) (As := [vI (xs (s1.1 + 1).toNat)]) (rest := [vI a143.1]) ⟨Nat.le_of_ble_eq_true rfl, Nat.le_of_ble_eq_true rfl⟩ rfl (Nat.le_of_ble_eq_true rfl) ⟨Nat.le_of_ble_eq_true rfl, Nat.le_of_ble_eq_true rfl⟩ d11_law_418 ?_
          refine ok10_end (by decide)  (kIm h (fun a144 h => ?_))
          refine r_icmp_eq F (tgt := 2092) d11_law_421 (by decide) (fun hb => ?_) (fun hb => ?_)
          · replace h := wpo_pos h hb
            refine r_iinc F 3 (lv' := [(3, vI (s1.1 + 6)), (0, Value.ref b), (1, vR X 0), (2, vR X 117)]) rfl (Nat.le_of_ble_eq_true rfl) rfl d11_law_2092 ?_
            refine r_goto F (tgt := 18) (by decide) d11_law_2095 ?_
            refine r_weak [1, 2, 3, 0] rfl ?_
            replace h := wpo_inl h
            exact h
          · replace h := wpo_neg h hb
            refine r_iconst F (z := 0) d11_law_424 ?_
            exact (wpo_none h).elim
        · replace h := wpo_neg h hb1
          by_cases hb2 : w32 (and32 (xs s1.1.toNat) 127) = 2
          · replace h := wpo_pos h hb2
            refine r_tabIn F 2 hb2 d11_law_33 (by decide) (by decide) rfl (tgt := 426) (by decide) ?_
            refine r_aload_nR F 1 rfl rfl d11_law_426 ?_
            replace h := wpo_bind h
            refine r_callV0 F lm11_23 mf9_parish (vc0 (by decide)) rfl (fr := 8) (lo := 173) (As := []) (rest := []) ⟨Nat.le_of_ble_eq_true rfl, Nat.le_of_ble_eq_true rfl⟩ rfl (Nat.le_of_ble_eq_true rfl) ⟨Nat.le_of_ble_eq_true rfl, Nat.le_of_ble_eq_true rfl⟩ d11_law_427 ?_
            refine ok9_parish (by decide)  (kIm h (fun a141 h => ?_))
            refine r_aload_nR F 2 rfl rfl d11_law_430 ?_
            replace h := wpo_bind h
            refine r_callV0 F lm11_27 mf10_parish (vc117 (by decide)) rfl (fr := 9) (lo := 199) (As := []) (rest := [vI a141.1]) ⟨Nat.le_of_ble_eq_true rfl, Nat.le_of_ble_eq_true rfl⟩ rfl (Nat.le_of_ble_eq_true rfl) ⟨Nat.le_of_ble_eq_true rfl, Nat.le_of_ble_eq_true rfl⟩ d11_law_431 ?_
            refine ok10_parish (by decide)  (kIm h (fun a142 h => ?_))
            refine r_icmp_eq F (tgt := 2092) d11_law_434 (by decide) (fun hb => ?_) (fun hb => ?_)
            · replace h := wpo_pos h hb
              refine r_iinc F 3 (lv' := [(3, vI (s1.1 + 6)), (0, Value.ref b), (1, vR X 0), (2, vR X 117)]) rfl (Nat.le_of_ble_eq_true rfl) rfl d11_law_2092 ?_
              refine r_goto F (tgt := 18) (by decide) d11_law_2095 ?_
              refine r_weak [1, 2, 3, 0] rfl ?_
              replace h := wpo_inl h
              exact h
            · replace h := wpo_neg h hb
              refine r_iconst F (z := 0) d11_law_437 ?_
              exact (wpo_none h).elim
          · replace h := wpo_neg h hb2
            by_cases hb3 : w32 (and32 (xs s1.1.toNat) 127) = 3
            · replace h := wpo_pos h hb3
              refine r_tabIn F 3 hb3 d11_law_33 (by decide) (by decide) rfl (tgt := 439) (by decide) ?_
              refine r_aload_nR F 1 rfl rfl d11_law_439 ?_
              refine r_aload_n F 0 rfl rfl d11_law_440 ?_
              refine r_iload_n F 3 rfl rfl d11_law_441 ?_
              refine r_iconst F (z := 1) d11_law_442 ?_
              refine r_iadd F d11_law_443 ?_
              obtain ⟨hx73, h⟩ := wpo_chk h
              refine r_sld F hL hX hbl hxs hx73 d11_law_444 ?_
              replace h := wpo_bind h
              refine r_callV0 F lm11_28 mf9_fault (vc0 (by decide)) rfl (fr := 0) (lo := 0) (As := [vI (xs (s1.1 + 1).toNat)]) (rest := []) ⟨Nat.le_of_ble_eq_true rfl, Nat.le_of_ble_eq_true rfl⟩ rfl (Nat.le_of_ble_eq_true rfl) ⟨Nat.le_of_ble_eq_true rfl, Nat.le_of_ble_eq_true rfl⟩ d11_law_445 ?_
              refine ok9_fault (by decide)  (kI h (fun a139 h => ?_))
              refine r_aload_nR F 2 rfl rfl d11_law_448 ?_
              refine r_aload_n F 0 rfl rfl d11_law_449 ?_
              refine r_iload_n F 3 rfl rfl d11_law_450 ?_
              refine r_iconst F (z := 1) d11_law_451 ?_
              refine r_iadd F d11_law_452 ?_
              refine r_sld F hL hX hbl hxs hx73 d11_law_453 ?_
              replace h := wpo_bind h
              refine r_callV0 F lm11_31 mf10_fault (vc117 (by decide)) rfl (fr := 0) (lo := 0) (As := [vI (xs (s1.1 + 1).toNat)]) (rest := [vI a139]) ⟨Nat.le_of_ble_eq_true rfl, Nat.le_of_ble_eq_true rfl⟩ rfl (Nat.le_of_ble_eq_true rfl) ⟨Nat.le_of_ble_eq_true rfl, Nat.le_of_ble_eq_true rfl⟩ d11_law_454 ?_
              refine ok10_fault (by decide)  (kI h (fun a140 h => ?_))
              refine r_icmp_eq F (tgt := 2092) d11_law_457 (by decide) (fun hb => ?_) (fun hb => ?_)
              · replace h := wpo_pos h hb
                refine r_iinc F 3 (lv' := [(3, vI (s1.1 + 6)), (0, Value.ref b), (1, vR X 0), (2, vR X 117)]) rfl (Nat.le_of_ble_eq_true rfl) rfl d11_law_2092 ?_
                refine r_goto F (tgt := 18) (by decide) d11_law_2095 ?_
                refine r_weak [1, 2, 3, 0] rfl ?_
                replace h := wpo_inl h
                exact h
              · replace h := wpo_neg h hb
                refine r_iconst F (z := 0) d11_law_460 ?_
                exact (wpo_none h).elim
            · replace h := wpo_neg h hb3
              by_cases hb4 : w32 (and32 (xs s1.1.toNat) 127) = 4
              · replace h := wpo_pos h hb4
                refine r_tabIn F 4 hb4 d11_law_33 (by decide) (by decide) rfl (tgt := 462) (by decide) ?_
                refine r_aload_nR F 1 rfl rfl d11_law_462 ?_
                refine r_aload_n F 0 rfl rfl d11_law_463 ?_
                refine r_iload_n F 3 rfl rfl d11_law_464 ?_
                refine r_iconst F (z := 1) d11_law_465 ?_
                refine r_iadd F d11_law_466 ?_
                obtain ⟨hx71, h⟩ := wpo_chk h
                refine r_sld F hL hX hbl hxs hx71 d11_law_467 ?_
                refine r_aload_n F 0 rfl rfl d11_law_468 ?_
                refine r_iload_n F 3 rfl rfl d11_law_469 ?_
                refine r_iconst F (z := 2) d11_law_470 ?_
                refine r_iadd F d11_law_471 ?_
                obtain ⟨hx72, h⟩ := wpo_chk h
                refine r_sld F hL hX hbl hxs hx72 d11_law_472 ?_
                replace h := wpo_bind h
                refine r_callV0 F lm11_32 mf9_person (vc0 (by decide)) rfl (fr := 1) (lo := 21) (As := [vI (xs (s1.1 + 1).toNat), vI (xs (s1.1 + 2).toNat)]) (rest := []) ⟨Nat.le_of_ble_eq_true rfl, Nat.le_of_ble_eq_true rfl⟩ rfl (Nat.le_of_ble_eq_true rfl) ⟨Nat.le_of_ble_eq_true rfl, Nat.le_of_ble_eq_true rfl⟩ d11_law_473 ?_
                refine ok9_person (by decide)  (kI h (fun a137 h => ?_))
                refine r_aload_nR F 2 rfl rfl d11_law_476 ?_
                refine r_aload_n F 0 rfl rfl d11_law_477 ?_
                refine r_iload_n F 3 rfl rfl d11_law_478 ?_
                refine r_iconst F (z := 1) d11_law_479 ?_
                refine r_iadd F d11_law_480 ?_
                refine r_sld F hL hX hbl hxs hx71 d11_law_481 ?_
                refine r_aload_n F 0 rfl rfl d11_law_482 ?_
                refine r_iload_n F 3 rfl rfl d11_law_483 ?_
                refine r_iconst F (z := 2) d11_law_484 ?_
                refine r_iadd F d11_law_485 ?_
                refine r_sld F hL hX hbl hxs hx72 d11_law_486 ?_
                replace h := wpo_bind h
                refine r_callV0 F lm11_36 mf10_person (vc117 (by decide)) rfl (fr := 6) (lo := 134) (As := [vI (xs (s1.1 + 1).toNat), vI (xs (s1.1 + 2).toNat)]) (rest := [vI a137]) ⟨Nat.le_of_ble_eq_true rfl, Nat.le_of_ble_eq_true rfl⟩ rfl (Nat.le_of_ble_eq_true rfl) ⟨Nat.le_of_ble_eq_true rfl, Nat.le_of_ble_eq_true rfl⟩ d11_law_487 ?_
                refine ok10_person (by decide)  (kIm h (fun a138 h => ?_))
                refine r_icmp_eq F (tgt := 2092) d11_law_490 (by decide) (fun hb => ?_) (fun hb => ?_)
                · replace h := wpo_pos h hb
                  refine r_iinc F 3 (lv' := [(3, vI (s1.1 + 6)), (0, Value.ref b), (1, vR X 0), (2, vR X 117)]) rfl (Nat.le_of_ble_eq_true rfl) rfl d11_law_2092 ?_
                  refine r_goto F (tgt := 18) (by decide) d11_law_2095 ?_
                  refine r_weak [1, 2, 3, 0] rfl ?_
                  replace h := wpo_inl h
                  exact h
                · replace h := wpo_neg h hb
                  refine r_iconst F (z := 0) d11_law_493 ?_
                  exact (wpo_none h).elim
              · replace h := wpo_neg h hb4
                by_cases hb5 : w32 (and32 (xs s1.1.toNat) 127) = 5
                · replace h := wpo_pos h hb5
                  refine r_tabIn F 5 hb5 d11_law_33 (by decide) (by decide) rfl (tgt := 495) (by decide) ?_
                  refine r_aload_nR F 1 rfl rfl d11_law_495 ?_
                  refine r_aload_n F 0 rfl rfl d11_law_496 ?_
                  refine r_iload_n F 3 rfl rfl d11_law_497 ?_
                  refine r_iconst F (z := 1) d11_law_498 ?_
                  refine r_iadd F d11_law_499 ?_
                  obtain ⟨hx70, h⟩ := wpo_chk h
                  refine r_sld F hL hX hbl hxs hx70 d11_law_500 ?_
                  replace h := wpo_bind h
                  refine r_callV0 F lm11_37 mf9_gives (vc0 (by decide)) rfl (fr := 1) (lo := 21) (As := [vI (xs (s1.1 + 1).toNat)]) (rest := []) ⟨Nat.le_of_ble_eq_true rfl, Nat.le_of_ble_eq_true rfl⟩ rfl (Nat.le_of_ble_eq_true rfl) ⟨Nat.le_of_ble_eq_true rfl, Nat.le_of_ble_eq_true rfl⟩ d11_law_501 ?_
                  refine ok9_gives (by decide)  (kI h (fun a135 h => ?_))
                  refine r_aload_nR F 2 rfl rfl d11_law_504 ?_
                  refine r_aload_n F 0 rfl rfl d11_law_505 ?_
                  refine r_iload_n F 3 rfl rfl d11_law_506 ?_
                  refine r_iconst F (z := 1) d11_law_507 ?_
                  refine r_iadd F d11_law_508 ?_
                  refine r_sld F hL hX hbl hxs hx70 d11_law_509 ?_
                  replace h := wpo_bind h
                  refine r_callV0 F lm11_40 mf10_gives (vc117 (by decide)) rfl (fr := 6) (lo := 134) (As := [vI (xs (s1.1 + 1).toNat)]) (rest := [vI a135]) ⟨Nat.le_of_ble_eq_true rfl, Nat.le_of_ble_eq_true rfl⟩ rfl (Nat.le_of_ble_eq_true rfl) ⟨Nat.le_of_ble_eq_true rfl, Nat.le_of_ble_eq_true rfl⟩ d11_law_510 ?_
                  refine ok10_gives (by decide)  (kIm h (fun a136 h => ?_))
                  refine r_icmp_eq F (tgt := 2092) d11_law_513 (by decide) (fun hb => ?_) (fun hb => ?_)
                  · replace h := wpo_pos h hb
                    refine r_iinc F 3 (lv' := [(3, vI (s1.1 + 6)), (0, Value.ref b), (1, vR X 0), (2, vR X 117)]) rfl (Nat.le_of_ble_eq_true rfl) rfl d11_law_2092 ?_
                    refine r_goto F (tgt := 18) (by decide) d11_law_2095 ?_
                    refine r_weak [1, 2, 3, 0] rfl ?_
                    replace h := wpo_inl h
                    exact h
                  · replace h := wpo_neg h hb
                    refine r_iconst F (z := 0) d11_law_516 ?_
                    exact (wpo_none h).elim
                · replace h := wpo_neg h hb5
                  by_cases hb6 : w32 (and32 (xs s1.1.toNat) 127) = 6
                  · replace h := wpo_pos h hb6
                    refine r_tabIn F 6 hb6 d11_law_33 (by decide) (by decide) rfl (tgt := 518) (by decide) ?_
                    refine r_aload_nR F 1 rfl rfl d11_law_518 ?_
                    refine r_aload_n F 0 rfl rfl d11_law_519 ?_
                    refine r_iload_n F 3 rfl rfl d11_law_520 ?_
                    refine r_iconst F (z := 1) d11_law_521 ?_
                    refine r_iadd F d11_law_522 ?_
                    obtain ⟨hx69, h⟩ := wpo_chk h
                    refine r_sld F hL hX hbl hxs hx69 d11_law_523 ?_
                    replace h := wpo_bind h
                    refine r_callV0 F lm11_41 mf9_given (vc0 (by decide)) rfl (fr := 1) (lo := 21) (As := [vI (xs (s1.1 + 1).toNat)]) (rest := []) ⟨Nat.le_of_ble_eq_true rfl, Nat.le_of_ble_eq_true rfl⟩ rfl (Nat.le_of_ble_eq_true rfl) ⟨Nat.le_of_ble_eq_true rfl, Nat.le_of_ble_eq_true rfl⟩ d11_law_524 ?_
                    refine ok9_given (by decide)  (kI h (fun a133 h => ?_))
                    refine r_aload_nR F 2 rfl rfl d11_law_527 ?_
                    refine r_aload_n F 0 rfl rfl d11_law_528 ?_
                    refine r_iload_n F 3 rfl rfl d11_law_529 ?_
                    refine r_iconst F (z := 1) d11_law_530 ?_
                    refine r_iadd F d11_law_531 ?_
                    refine r_sld F hL hX hbl hxs hx69 d11_law_532 ?_
                    replace h := wpo_bind h
                    refine r_callV0 F lm11_44 mf10_given (vc117 (by decide)) rfl (fr := 6) (lo := 134) (As := [vI (xs (s1.1 + 1).toNat)]) (rest := [vI a133]) ⟨Nat.le_of_ble_eq_true rfl, Nat.le_of_ble_eq_true rfl⟩ rfl (Nat.le_of_ble_eq_true rfl) ⟨Nat.le_of_ble_eq_true rfl, Nat.le_of_ble_eq_true rfl⟩ d11_law_533 ?_
                    refine ok10_given (by decide)  (kIm h (fun a134 h => ?_))
                    refine r_icmp_eq F (tgt := 2092) d11_law_536 (by decide) (fun hb => ?_) (fun hb => ?_)
                    · replace h := wpo_pos h hb
                      refine r_iinc F 3 (lv' := [(3, vI (s1.1 + 6)), (0, Value.ref b), (1, vR X 0), (2, vR X 117)]) rfl (Nat.le_of_ble_eq_true rfl) rfl d11_law_2092 ?_
                      refine r_goto F (tgt := 18) (by decide) d11_law_2095 ?_
                      refine r_weak [1, 2, 3, 0] rfl ?_
                      replace h := wpo_inl h
                      exact h
                    · replace h := wpo_neg h hb
                      refine r_iconst F (z := 0) d11_law_539 ?_
                      exact (wpo_none h).elim
                  · replace h := wpo_neg h hb6
                    by_cases hb7 : w32 (and32 (xs s1.1.toNat) 127) = 7
                    · replace h := wpo_pos h hb7
                      refine r_tabIn F 7 hb7 d11_law_33 (by decide) (by decide) rfl (tgt := 541) (by decide) ?_
                      refine r_aload_nR F 1 rfl rfl d11_law_541 ?_
                      refine r_aload_n F 0 rfl rfl d11_law_542 ?_
                      refine r_iload_n F 3 rfl rfl d11_law_543 ?_
                      refine r_iconst F (z := 1) d11_law_544 ?_
                      refine r_iadd F d11_law_545 ?_
                      obtain ⟨hx68, h⟩ := wpo_chk h
                      refine r_sld F hL hX hbl hxs hx68 d11_law_546 ?_
                      replace h := wpo_bind h
                      refine r_callV0 F lm11_45 mf9_waits (vc0 (by decide)) rfl (fr := 1) (lo := 21) (As := [vI (xs (s1.1 + 1).toNat)]) (rest := []) ⟨Nat.le_of_ble_eq_true rfl, Nat.le_of_ble_eq_true rfl⟩ rfl (Nat.le_of_ble_eq_true rfl) ⟨Nat.le_of_ble_eq_true rfl, Nat.le_of_ble_eq_true rfl⟩ d11_law_547 ?_
                      refine ok9_waits (by decide)  (kI h (fun a131 h => ?_))
                      refine r_aload_nR F 2 rfl rfl d11_law_550 ?_
                      refine r_aload_n F 0 rfl rfl d11_law_551 ?_
                      refine r_iload_n F 3 rfl rfl d11_law_552 ?_
                      refine r_iconst F (z := 1) d11_law_553 ?_
                      refine r_iadd F d11_law_554 ?_
                      refine r_sld F hL hX hbl hxs hx68 d11_law_555 ?_
                      replace h := wpo_bind h
                      refine r_callV0 F lm11_48 mf10_waits (vc117 (by decide)) rfl (fr := 6) (lo := 134) (As := [vI (xs (s1.1 + 1).toNat)]) (rest := [vI a131]) ⟨Nat.le_of_ble_eq_true rfl, Nat.le_of_ble_eq_true rfl⟩ rfl (Nat.le_of_ble_eq_true rfl) ⟨Nat.le_of_ble_eq_true rfl, Nat.le_of_ble_eq_true rfl⟩ d11_law_556 ?_
                      refine ok10_waits (by decide)  (kIm h (fun a132 h => ?_))
                      refine r_icmp_eq F (tgt := 2092) d11_law_559 (by decide) (fun hb => ?_) (fun hb => ?_)
                      · replace h := wpo_pos h hb
                        refine r_iinc F 3 (lv' := [(3, vI (s1.1 + 6)), (0, Value.ref b), (1, vR X 0), (2, vR X 117)]) rfl (Nat.le_of_ble_eq_true rfl) rfl d11_law_2092 ?_
                        refine r_goto F (tgt := 18) (by decide) d11_law_2095 ?_
                        refine r_weak [1, 2, 3, 0] rfl ?_
                        replace h := wpo_inl h
                        exact h
                      · replace h := wpo_neg h hb
                        refine r_iconst F (z := 0) d11_law_562 ?_
                        exact (wpo_none h).elim
                    · replace h := wpo_neg h hb7
                      by_cases hb8 : w32 (and32 (xs s1.1.toNat) 127) = 8
                      · replace h := wpo_pos h hb8
                        refine r_tabIn F 8 hb8 d11_law_33 (by decide) (by decide) rfl (tgt := 564) (by decide) ?_
                        refine r_aload_nR F 1 rfl rfl d11_law_564 ?_
                        refine r_aload_n F 0 rfl rfl d11_law_565 ?_
                        refine r_iload_n F 3 rfl rfl d11_law_566 ?_
                        refine r_iconst F (z := 1) d11_law_567 ?_
                        refine r_iadd F d11_law_568 ?_
                        obtain ⟨hx67, h⟩ := wpo_chk h
                        refine r_sld F hL hX hbl hxs hx67 d11_law_569 ?_
                        replace h := wpo_bind h
                        refine r_callV0 F lm11_49 mf9_left (vc0 (by decide)) rfl (fr := 1) (lo := 21) (As := [vI (xs (s1.1 + 1).toNat)]) (rest := []) ⟨Nat.le_of_ble_eq_true rfl, Nat.le_of_ble_eq_true rfl⟩ rfl (Nat.le_of_ble_eq_true rfl) ⟨Nat.le_of_ble_eq_true rfl, Nat.le_of_ble_eq_true rfl⟩ d11_law_570 ?_
                        refine ok9_left (by decide)  (kI h (fun a129 h => ?_))
                        refine r_aload_nR F 2 rfl rfl d11_law_573 ?_
                        refine r_aload_n F 0 rfl rfl d11_law_574 ?_
                        refine r_iload_n F 3 rfl rfl d11_law_575 ?_
                        refine r_iconst F (z := 1) d11_law_576 ?_
                        refine r_iadd F d11_law_577 ?_
                        refine r_sld F hL hX hbl hxs hx67 d11_law_578 ?_
                        replace h := wpo_bind h
                        refine r_callV0 F lm11_52 mf10_left (vc117 (by decide)) rfl (fr := 6) (lo := 134) (As := [vI (xs (s1.1 + 1).toNat)]) (rest := [vI a129]) ⟨Nat.le_of_ble_eq_true rfl, Nat.le_of_ble_eq_true rfl⟩ rfl (Nat.le_of_ble_eq_true rfl) ⟨Nat.le_of_ble_eq_true rfl, Nat.le_of_ble_eq_true rfl⟩ d11_law_579 ?_
                        refine ok10_left (by decide)  (kIm h (fun a130 h => ?_))
                        refine r_icmp_eq F (tgt := 2092) d11_law_582 (by decide) (fun hb => ?_) (fun hb => ?_)
                        · replace h := wpo_pos h hb
                          refine r_iinc F 3 (lv' := [(3, vI (s1.1 + 6)), (0, Value.ref b), (1, vR X 0), (2, vR X 117)]) rfl (Nat.le_of_ble_eq_true rfl) rfl d11_law_2092 ?_
                          refine r_goto F (tgt := 18) (by decide) d11_law_2095 ?_
                          refine r_weak [1, 2, 3, 0] rfl ?_
                          replace h := wpo_inl h
                          exact h
                        · replace h := wpo_neg h hb
                          refine r_iconst F (z := 0) d11_law_585 ?_
                          exact (wpo_none h).elim
                      · replace h := wpo_neg h hb8
                        by_cases hb9 : w32 (and32 (xs s1.1.toNat) 127) = 9
                        · replace h := wpo_pos h hb9
                          refine r_tabIn F 9 hb9 d11_law_33 (by decide) (by decide) rfl (tgt := 587) (by decide) ?_
                          refine r_aload_nR F 1 rfl rfl d11_law_587 ?_
                          refine r_aload_n F 0 rfl rfl d11_law_588 ?_
                          refine r_iload_n F 3 rfl rfl d11_law_589 ?_
                          refine r_iconst F (z := 1) d11_law_590 ?_
                          refine r_iadd F d11_law_591 ?_
                          obtain ⟨hx66, h⟩ := wpo_chk h
                          refine r_sld F hL hX hbl hxs hx66 d11_law_592 ?_
                          replace h := wpo_bind h
                          refine r_callV0 F lm11_53 mf9_bears (vc0 (by decide)) rfl (fr := 1) (lo := 21) (As := [vI (xs (s1.1 + 1).toNat)]) (rest := []) ⟨Nat.le_of_ble_eq_true rfl, Nat.le_of_ble_eq_true rfl⟩ rfl (Nat.le_of_ble_eq_true rfl) ⟨Nat.le_of_ble_eq_true rfl, Nat.le_of_ble_eq_true rfl⟩ d11_law_593 ?_
                          refine ok9_bears (by decide)  (kI h (fun a127 h => ?_))
                          refine r_aload_nR F 2 rfl rfl d11_law_596 ?_
                          refine r_aload_n F 0 rfl rfl d11_law_597 ?_
                          refine r_iload_n F 3 rfl rfl d11_law_598 ?_
                          refine r_iconst F (z := 1) d11_law_599 ?_
                          refine r_iadd F d11_law_600 ?_
                          refine r_sld F hL hX hbl hxs hx66 d11_law_601 ?_
                          replace h := wpo_bind h
                          refine r_callV0 F lm11_56 mf10_bears (vc117 (by decide)) rfl (fr := 6) (lo := 134) (As := [vI (xs (s1.1 + 1).toNat)]) (rest := [vI a127]) ⟨Nat.le_of_ble_eq_true rfl, Nat.le_of_ble_eq_true rfl⟩ rfl (Nat.le_of_ble_eq_true rfl) ⟨Nat.le_of_ble_eq_true rfl, Nat.le_of_ble_eq_true rfl⟩ d11_law_602 ?_
                          refine ok10_bears (by decide)  (kIm h (fun a128 h => ?_))
                          refine r_icmp_eq F (tgt := 2092) d11_law_605 (by decide) (fun hb => ?_) (fun hb => ?_)
                          · replace h := wpo_pos h hb
                            refine r_iinc F 3 (lv' := [(3, vI (s1.1 + 6)), (0, Value.ref b), (1, vR X 0), (2, vR X 117)]) rfl (Nat.le_of_ble_eq_true rfl) rfl d11_law_2092 ?_
                            refine r_goto F (tgt := 18) (by decide) d11_law_2095 ?_
                            refine r_weak [1, 2, 3, 0] rfl ?_
                            replace h := wpo_inl h
                            exact h
                          · replace h := wpo_neg h hb
                            refine r_iconst F (z := 0) d11_law_608 ?_
                            exact (wpo_none h).elim
                        · replace h := wpo_neg h hb9
                          by_cases hb10 : w32 (and32 (xs s1.1.toNat) 127) = 10
                          · replace h := wpo_pos h hb10
                            refine r_tabIn F 10 hb10 d11_law_33 (by decide) (by decide) rfl (tgt := 610) (by decide) ?_
                            refine r_aload_nR F 1 rfl rfl d11_law_610 ?_
                            refine r_aload_n F 0 rfl rfl d11_law_611 ?_
                            refine r_iload_n F 3 rfl rfl d11_law_612 ?_
                            refine r_iconst F (z := 1) d11_law_613 ?_
                            refine r_iadd F d11_law_614 ?_
                            obtain ⟨hx65, h⟩ := wpo_chk h
                            refine r_sld F hL hX hbl hxs hx65 d11_law_615 ?_
                            replace h := wpo_bind h
                            refine r_callV0 F lm11_57 mf9_groans (vc0 (by decide)) rfl (fr := 1) (lo := 21) (As := [vI (xs (s1.1 + 1).toNat)]) (rest := []) ⟨Nat.le_of_ble_eq_true rfl, Nat.le_of_ble_eq_true rfl⟩ rfl (Nat.le_of_ble_eq_true rfl) ⟨Nat.le_of_ble_eq_true rfl, Nat.le_of_ble_eq_true rfl⟩ d11_law_616 ?_
                            refine ok9_groans (by decide)  (kI h (fun a125 h => ?_))
                            refine r_aload_nR F 2 rfl rfl d11_law_619 ?_
                            refine r_aload_n F 0 rfl rfl d11_law_620 ?_
                            refine r_iload_n F 3 rfl rfl d11_law_621 ?_
                            refine r_iconst F (z := 1) d11_law_622 ?_
                            refine r_iadd F d11_law_623 ?_
                            refine r_sld F hL hX hbl hxs hx65 d11_law_624 ?_
                            replace h := wpo_bind h
                            refine r_callV0 F lm11_60 mf10_groans (vc117 (by decide)) rfl (fr := 6) (lo := 134) (As := [vI (xs (s1.1 + 1).toNat)]) (rest := [vI a125]) ⟨Nat.le_of_ble_eq_true rfl, Nat.le_of_ble_eq_true rfl⟩ rfl (Nat.le_of_ble_eq_true rfl) ⟨Nat.le_of_ble_eq_true rfl, Nat.le_of_ble_eq_true rfl⟩ d11_law_625 ?_
                            refine ok10_groans (by decide)  (kIm h (fun a126 h => ?_))
                            refine r_icmp_eq F (tgt := 2092) d11_law_628 (by decide) (fun hb => ?_) (fun hb => ?_)
                            · replace h := wpo_pos h hb
                              refine r_iinc F 3 (lv' := [(3, vI (s1.1 + 6)), (0, Value.ref b), (1, vR X 0), (2, vR X 117)]) rfl (Nat.le_of_ble_eq_true rfl) rfl d11_law_2092 ?_
                              refine r_goto F (tgt := 18) (by decide) d11_law_2095 ?_
                              refine r_weak [1, 2, 3, 0] rfl ?_
                              replace h := wpo_inl h
                              exact h
                            · replace h := wpo_neg h hb
                              refine r_iconst F (z := 0) d11_law_631 ?_
                              exact (wpo_none h).elim
                          · replace h := wpo_neg h hb10
                            by_cases hb11 : w32 (and32 (xs s1.1.toNat) 127) = 11
                            · replace h := wpo_pos h hb11
                              refine r_tabIn F 11 hb11 d11_law_33 (by decide) (by decide) rfl (tgt := 633) (by decide) ?_
                              refine r_aload_nR F 1 rfl rfl d11_law_633 ?_
                              replace h := wpo_bind h
                              refine r_callV0 F lm11_61 mf9_all (vc0 (by decide)) rfl (fr := 1) (lo := 20) (As := []) (rest := []) ⟨Nat.le_of_ble_eq_true rfl, Nat.le_of_ble_eq_true rfl⟩ rfl (Nat.le_of_ble_eq_true rfl) ⟨Nat.le_of_ble_eq_true rfl, Nat.le_of_ble_eq_true rfl⟩ d11_law_634 ?_
                              refine ok9_all (by decide)  (kI h (fun a123 h => ?_))
                              refine r_aload_nR F 2 rfl rfl d11_law_637 ?_
                              replace h := wpo_bind h
                              refine r_callV0 F lm11_64 mf10_all (vc117 (by decide)) rfl (fr := 5) (lo := 113) (As := []) (rest := [vI a123]) ⟨Nat.le_of_ble_eq_true rfl, Nat.le_of_ble_eq_true rfl⟩ rfl (Nat.le_of_ble_eq_true rfl) ⟨Nat.le_of_ble_eq_true rfl, Nat.le_of_ble_eq_true rfl⟩ d11_law_638 ?_
                              refine ok10_all (by decide)  (kIm h (fun a124 h => ?_))
                              refine r_icmp_eq F (tgt := 2092) d11_law_641 (by decide) (fun hb => ?_) (fun hb => ?_)
                              · replace h := wpo_pos h hb
                                refine r_iinc F 3 (lv' := [(3, vI (s1.1 + 6)), (0, Value.ref b), (1, vR X 0), (2, vR X 117)]) rfl (Nat.le_of_ble_eq_true rfl) rfl d11_law_2092 ?_
                                refine r_goto F (tgt := 18) (by decide) d11_law_2095 ?_
                                refine r_weak [1, 2, 3, 0] rfl ?_
                                replace h := wpo_inl h
                                exact h
                              · replace h := wpo_neg h hb
                                refine r_iconst F (z := 0) d11_law_644 ?_
                                exact (wpo_none h).elim
                            · replace h := wpo_neg h hb11
                              by_cases hb12 : w32 (and32 (xs s1.1.toNat) 127) = 12
                              · replace h := wpo_pos h hb12
                                refine r_tabIn F 12 hb12 d11_law_33 (by decide) (by decide) rfl (tgt := 646) (by decide) ?_
                                refine r_aload_nR F 1 rfl rfl d11_law_646 ?_
                                replace h := wpo_bind h
                                refine r_callV0 F lm11_65 mf9_worst (vc0 (by decide)) rfl (fr := 1) (lo := 20) (As := []) (rest := []) ⟨Nat.le_of_ble_eq_true rfl, Nat.le_of_ble_eq_true rfl⟩ rfl (Nat.le_of_ble_eq_true rfl) ⟨Nat.le_of_ble_eq_true rfl, Nat.le_of_ble_eq_true rfl⟩ d11_law_647 ?_
                                refine ok9_worst (by decide)  (kI h (fun a121 h => ?_))
                                refine r_aload_nR F 2 rfl rfl d11_law_650 ?_
                                replace h := wpo_bind h
                                refine r_callV0 F lm11_68 mf10_worst (vc117 (by decide)) rfl (fr := 5) (lo := 113) (As := []) (rest := [vI a121]) ⟨Nat.le_of_ble_eq_true rfl, Nat.le_of_ble_eq_true rfl⟩ rfl (Nat.le_of_ble_eq_true rfl) ⟨Nat.le_of_ble_eq_true rfl, Nat.le_of_ble_eq_true rfl⟩ d11_law_651 ?_
                                refine ok10_worst (by decide)  (kIm h (fun a122 h => ?_))
                                refine r_icmp_eq F (tgt := 2092) d11_law_654 (by decide) (fun hb => ?_) (fun hb => ?_)
                                · replace h := wpo_pos h hb
                                  refine r_iinc F 3 (lv' := [(3, vI (s1.1 + 6)), (0, Value.ref b), (1, vR X 0), (2, vR X 117)]) rfl (Nat.le_of_ble_eq_true rfl) rfl d11_law_2092 ?_
                                  refine r_goto F (tgt := 18) (by decide) d11_law_2095 ?_
                                  refine r_weak [1, 2, 3, 0] rfl ?_
                                  replace h := wpo_inl h
                                  exact h
                                · replace h := wpo_neg h hb
                                  refine r_iconst F (z := 0) d11_law_657 ?_
                                  exact (wpo_none h).elim
                              · replace h := wpo_neg h hb12
                                by_cases hb13 : w32 (and32 (xs s1.1.toNat) 127) = 13
                                · replace h := wpo_pos h hb13
                                  refine r_tabIn F 13 hb13 d11_law_33 (by decide) (by decide) rfl (tgt := 659) (by decide) ?_
                                  refine r_aload_nR F 1 rfl rfl d11_law_659 ?_
                                  replace h := wpo_bind h
                                  refine r_callV0 F lm11_69 mf9_crowded (vc0 (by decide)) rfl (fr := 1) (lo := 20) (As := []) (rest := []) ⟨Nat.le_of_ble_eq_true rfl, Nat.le_of_ble_eq_true rfl⟩ rfl (Nat.le_of_ble_eq_true rfl) ⟨Nat.le_of_ble_eq_true rfl, Nat.le_of_ble_eq_true rfl⟩ d11_law_660 ?_
                                  refine ok9_crowded (by decide)  (kI h (fun a119 h => ?_))
                                  refine r_aload_nR F 2 rfl rfl d11_law_663 ?_
                                  replace h := wpo_bind h
                                  refine r_callV0 F lm11_72 mf10_crowded (vc117 (by decide)) rfl (fr := 5) (lo := 113) (As := []) (rest := [vI a119]) ⟨Nat.le_of_ble_eq_true rfl, Nat.le_of_ble_eq_true rfl⟩ rfl (Nat.le_of_ble_eq_true rfl) ⟨Nat.le_of_ble_eq_true rfl, Nat.le_of_ble_eq_true rfl⟩ d11_law_664 ?_
                                  refine ok10_crowded (by decide)  (kIm h (fun a120 h => ?_))
                                  refine r_icmp_eq F (tgt := 2092) d11_law_667 (by decide) (fun hb => ?_) (fun hb => ?_)
                                  · replace h := wpo_pos h hb
                                    refine r_iinc F 3 (lv' := [(3, vI (s1.1 + 6)), (0, Value.ref b), (1, vR X 0), (2, vR X 117)]) rfl (Nat.le_of_ble_eq_true rfl) rfl d11_law_2092 ?_
                                    refine r_goto F (tgt := 18) (by decide) d11_law_2095 ?_
                                    refine r_weak [1, 2, 3, 0] rfl ?_
                                    replace h := wpo_inl h
                                    exact h
                                  · replace h := wpo_neg h hb
                                    refine r_iconst F (z := 0) d11_law_670 ?_
                                    exact (wpo_none h).elim
                                · replace h := wpo_neg h hb13
                                  by_cases hb14 : w32 (and32 (xs s1.1.toNat) 127) = 14
                                  · replace h := wpo_pos h hb14
                                    refine r_tabIn F 14 hb14 d11_law_33 (by decide) (by decide) rfl (tgt := 672) (by decide) ?_
                                    refine r_aload_nR F 1 rfl rfl d11_law_672 ?_
                                    refine r_aload_n F 0 rfl rfl d11_law_673 ?_
                                    refine r_iload_n F 3 rfl rfl d11_law_674 ?_
                                    refine r_iconst F (z := 1) d11_law_675 ?_
                                    refine r_iadd F d11_law_676 ?_
                                    obtain ⟨hx64, h⟩ := wpo_chk h
                                    refine r_sld F hL hX hbl hxs hx64 d11_law_677 ?_
                                    replace h := wpo_bind h
                                    refine r_callV0 F lm11_73 mf9_holds (vc0 (by decide)) rfl (fr := 1) (lo := 21) (As := [vI (xs (s1.1 + 1).toNat)]) (rest := []) ⟨Nat.le_of_ble_eq_true rfl, Nat.le_of_ble_eq_true rfl⟩ rfl (Nat.le_of_ble_eq_true rfl) ⟨Nat.le_of_ble_eq_true rfl, Nat.le_of_ble_eq_true rfl⟩ d11_law_678 ?_
                                    refine ok9_holds (by decide)  (kI h (fun a117 h => ?_))
                                    refine r_aload_nR F 2 rfl rfl d11_law_681 ?_
                                    refine r_aload_n F 0 rfl rfl d11_law_682 ?_
                                    refine r_iload_n F 3 rfl rfl d11_law_683 ?_
                                    refine r_iconst F (z := 1) d11_law_684 ?_
                                    refine r_iadd F d11_law_685 ?_
                                    refine r_sld F hL hX hbl hxs hx64 d11_law_686 ?_
                                    replace h := wpo_bind h
                                    refine r_callV0 F lm11_76 mf10_holds (vc117 (by decide)) rfl (fr := 6) (lo := 134) (As := [vI (xs (s1.1 + 1).toNat)]) (rest := [vI a117]) ⟨Nat.le_of_ble_eq_true rfl, Nat.le_of_ble_eq_true rfl⟩ rfl (Nat.le_of_ble_eq_true rfl) ⟨Nat.le_of_ble_eq_true rfl, Nat.le_of_ble_eq_true rfl⟩ d11_law_687 ?_
                                    refine ok10_holds (by decide)  (kIm h (fun a118 h => ?_))
                                    refine r_icmp_eq F (tgt := 2092) d11_law_690 (by decide) (fun hb => ?_) (fun hb => ?_)
                                    · replace h := wpo_pos h hb
                                      refine r_iinc F 3 (lv' := [(3, vI (s1.1 + 6)), (0, Value.ref b), (1, vR X 0), (2, vR X 117)]) rfl (Nat.le_of_ble_eq_true rfl) rfl d11_law_2092 ?_
                                      refine r_goto F (tgt := 18) (by decide) d11_law_2095 ?_
                                      refine r_weak [1, 2, 3, 0] rfl ?_
                                      replace h := wpo_inl h
                                      exact h
                                    · replace h := wpo_neg h hb
                                      refine r_iconst F (z := 0) d11_law_693 ?_
                                      exact (wpo_none h).elim
                                  · replace h := wpo_neg h hb14
                                    by_cases hb15 : w32 (and32 (xs s1.1.toNat) 127) = 15
                                    · replace h := wpo_pos h hb15
                                      refine r_tabIn F 15 hb15 d11_law_33 (by decide) (by decide) rfl (tgt := 695) (by decide) ?_
                                      refine r_aload_nR F 1 rfl rfl d11_law_695 ?_
                                      refine r_aload_n F 0 rfl rfl d11_law_696 ?_
                                      refine r_iload_n F 3 rfl rfl d11_law_697 ?_
                                      refine r_iconst F (z := 1) d11_law_698 ?_
                                      refine r_iadd F d11_law_699 ?_
                                      obtain ⟨hx63, h⟩ := wpo_chk h
                                      refine r_sld F hL hX hbl hxs hx63 d11_law_700 ?_
                                      replace h := wpo_bind h
                                      refine r_callV0 F lm11_77 mf9_cut (vc0 (by decide)) rfl (fr := 1) (lo := 21) (As := [vI (xs (s1.1 + 1).toNat)]) (rest := []) ⟨Nat.le_of_ble_eq_true rfl, Nat.le_of_ble_eq_true rfl⟩ rfl (Nat.le_of_ble_eq_true rfl) ⟨Nat.le_of_ble_eq_true rfl, Nat.le_of_ble_eq_true rfl⟩ d11_law_701 ?_
                                      refine ok9_cut (by decide)  (kI h (fun a115 h => ?_))
                                      refine r_aload_nR F 2 rfl rfl d11_law_704 ?_
                                      refine r_aload_n F 0 rfl rfl d11_law_705 ?_
                                      refine r_iload_n F 3 rfl rfl d11_law_706 ?_
                                      refine r_iconst F (z := 1) d11_law_707 ?_
                                      refine r_iadd F d11_law_708 ?_
                                      refine r_sld F hL hX hbl hxs hx63 d11_law_709 ?_
                                      replace h := wpo_bind h
                                      refine r_callV0 F lm11_80 mf10_cut (vc117 (by decide)) rfl (fr := 6) (lo := 134) (As := [vI (xs (s1.1 + 1).toNat)]) (rest := [vI a115]) ⟨Nat.le_of_ble_eq_true rfl, Nat.le_of_ble_eq_true rfl⟩ rfl (Nat.le_of_ble_eq_true rfl) ⟨Nat.le_of_ble_eq_true rfl, Nat.le_of_ble_eq_true rfl⟩ d11_law_710 ?_
                                      refine ok10_cut (by decide)  (kIm h (fun a116 h => ?_))
                                      refine r_icmp_eq F (tgt := 2092) d11_law_713 (by decide) (fun hb => ?_) (fun hb => ?_)
                                      · replace h := wpo_pos h hb
                                        refine r_iinc F 3 (lv' := [(3, vI (s1.1 + 6)), (0, Value.ref b), (1, vR X 0), (2, vR X 117)]) rfl (Nat.le_of_ble_eq_true rfl) rfl d11_law_2092 ?_
                                        refine r_goto F (tgt := 18) (by decide) d11_law_2095 ?_
                                        refine r_weak [1, 2, 3, 0] rfl ?_
                                        replace h := wpo_inl h
                                        exact h
                                      · replace h := wpo_neg h hb
                                        refine r_iconst F (z := 0) d11_law_716 ?_
                                        exact (wpo_none h).elim
                                    · replace h := wpo_neg h hb15
                                      by_cases hb16 : w32 (and32 (xs s1.1.toNat) 127) = 16
                                      · replace h := wpo_pos h hb16
                                        refine r_tabIn F 16 hb16 d11_law_33 (by decide) (by decide) rfl (tgt := 718) (by decide) ?_
                                        refine r_aload_nR F 1 rfl rfl d11_law_718 ?_
                                        replace h := wpo_bind h
                                        refine r_callV0 F lm11_81 mf9_feast (vc0 (by decide)) rfl (fr := 1) (lo := 22) (As := []) (rest := []) ⟨Nat.le_of_ble_eq_true rfl, Nat.le_of_ble_eq_true rfl⟩ rfl (Nat.le_of_ble_eq_true rfl) ⟨Nat.le_of_ble_eq_true rfl, Nat.le_of_ble_eq_true rfl⟩ d11_law_719 ?_
                                        refine ok9_feast (by decide)  (kI h (fun a113 h => ?_))
                                        refine r_aload_nR F 2 rfl rfl d11_law_722 ?_
                                        replace h := wpo_bind h
                                        refine r_callV0 F lm11_84 mf10_feast (vc117 (by decide)) rfl (fr := 5) (lo := 113) (As := []) (rest := [vI a113]) ⟨Nat.le_of_ble_eq_true rfl, Nat.le_of_ble_eq_true rfl⟩ rfl (Nat.le_of_ble_eq_true rfl) ⟨Nat.le_of_ble_eq_true rfl, Nat.le_of_ble_eq_true rfl⟩ d11_law_723 ?_
                                        refine ok10_feast (by decide)  (kIm h (fun a114 h => ?_))
                                        refine r_icmp_eq F (tgt := 2092) d11_law_726 (by decide) (fun hb => ?_) (fun hb => ?_)
                                        · replace h := wpo_pos h hb
                                          refine r_iinc F 3 (lv' := [(3, vI (s1.1 + 6)), (0, Value.ref b), (1, vR X 0), (2, vR X 117)]) rfl (Nat.le_of_ble_eq_true rfl) rfl d11_law_2092 ?_
                                          refine r_goto F (tgt := 18) (by decide) d11_law_2095 ?_
                                          refine r_weak [1, 2, 3, 0] rfl ?_
                                          replace h := wpo_inl h
                                          exact h
                                        · replace h := wpo_neg h hb
                                          refine r_iconst F (z := 0) d11_law_729 ?_
                                          exact (wpo_none h).elim
                                      · replace h := wpo_neg h hb16
                                        by_cases hb17 : w32 (and32 (xs s1.1.toNat) 127) = 17
                                        · replace h := wpo_pos h hb17
                                          refine r_tabIn F 17 hb17 d11_law_33 (by decide) (by decide) rfl (tgt := 731) (by decide) ?_
                                          refine r_aload_nR F 1 rfl rfl d11_law_731 ?_
                                          replace h := wpo_bind h
                                          refine r_callV0 F lm11_85 mf9_paid (vc0 (by decide)) rfl (fr := 1) (lo := 20) (As := []) (rest := []) ⟨Nat.le_of_ble_eq_true rfl, Nat.le_of_ble_eq_true rfl⟩ rfl (Nat.le_of_ble_eq_true rfl) ⟨Nat.le_of_ble_eq_true rfl, Nat.le_of_ble_eq_true rfl⟩ d11_law_732 ?_
                                          refine ok9_paid (by decide)  (kI h (fun a111 h => ?_))
                                          refine r_aload_nR F 2 rfl rfl d11_law_735 ?_
                                          replace h := wpo_bind h
                                          refine r_callV0 F lm11_88 mf10_paid (vc117 (by decide)) rfl (fr := 5) (lo := 113) (As := []) (rest := [vI a111]) ⟨Nat.le_of_ble_eq_true rfl, Nat.le_of_ble_eq_true rfl⟩ rfl (Nat.le_of_ble_eq_true rfl) ⟨Nat.le_of_ble_eq_true rfl, Nat.le_of_ble_eq_true rfl⟩ d11_law_736 ?_
                                          refine ok10_paid (by decide)  (kIm h (fun a112 h => ?_))
                                          refine r_icmp_eq F (tgt := 2092) d11_law_739 (by decide) (fun hb => ?_) (fun hb => ?_)
                                          · replace h := wpo_pos h hb
                                            refine r_iinc F 3 (lv' := [(3, vI (s1.1 + 6)), (0, Value.ref b), (1, vR X 0), (2, vR X 117)]) rfl (Nat.le_of_ble_eq_true rfl) rfl d11_law_2092 ?_
                                            refine r_goto F (tgt := 18) (by decide) d11_law_2095 ?_
                                            refine r_weak [1, 2, 3, 0] rfl ?_
                                            replace h := wpo_inl h
                                            exact h
                                          · replace h := wpo_neg h hb
                                            refine r_iconst F (z := 0) d11_law_742 ?_
                                            exact (wpo_none h).elim
                                        · replace h := wpo_neg h hb17
                                          by_cases hb18 : w32 (and32 (xs s1.1.toNat) 127) = 18
                                          · replace h := wpo_pos h hb18
                                            refine r_tabIn F 18 hb18 d11_law_33 (by decide) (by decide) rfl (tgt := 744) (by decide) ?_
                                            refine r_aload_nR F 1 rfl rfl d11_law_744 ?_
                                            replace h := wpo_bind h
                                            refine r_callV0 F lm11_89 mf9_quiet (vc0 (by decide)) rfl (fr := 1) (lo := 20) (As := []) (rest := []) ⟨Nat.le_of_ble_eq_true rfl, Nat.le_of_ble_eq_true rfl⟩ rfl (Nat.le_of_ble_eq_true rfl) ⟨Nat.le_of_ble_eq_true rfl, Nat.le_of_ble_eq_true rfl⟩ d11_law_745 ?_
                                            refine ok9_quiet (by decide)  (kI h (fun a109 h => ?_))
                                            refine r_aload_nR F 2 rfl rfl d11_law_748 ?_
                                            replace h := wpo_bind h
                                            refine r_callV0 F lm11_92 mf10_quiet (vc117 (by decide)) rfl (fr := 5) (lo := 113) (As := []) (rest := [vI a109]) ⟨Nat.le_of_ble_eq_true rfl, Nat.le_of_ble_eq_true rfl⟩ rfl (Nat.le_of_ble_eq_true rfl) ⟨Nat.le_of_ble_eq_true rfl, Nat.le_of_ble_eq_true rfl⟩ d11_law_749 ?_
                                            refine ok10_quiet (by decide)  (kIm h (fun a110 h => ?_))
                                            refine r_icmp_eq F (tgt := 2092) d11_law_752 (by decide) (fun hb => ?_) (fun hb => ?_)
                                            · replace h := wpo_pos h hb
                                              refine r_iinc F 3 (lv' := [(3, vI (s1.1 + 6)), (0, Value.ref b), (1, vR X 0), (2, vR X 117)]) rfl (Nat.le_of_ble_eq_true rfl) rfl d11_law_2092 ?_
                                              refine r_goto F (tgt := 18) (by decide) d11_law_2095 ?_
                                              refine r_weak [1, 2, 3, 0] rfl ?_
                                              replace h := wpo_inl h
                                              exact h
                                            · replace h := wpo_neg h hb
                                              refine r_iconst F (z := 0) d11_law_755 ?_
                                              exact (wpo_none h).elim
                                          · replace h := wpo_neg h hb18
                                            by_cases hb19 : w32 (and32 (xs s1.1.toNat) 127) = 19
                                            · replace h := wpo_pos h hb19
                                              refine r_tabIn F 19 hb19 d11_law_33 (by decide) (by decide) rfl (tgt := 757) (by decide) ?_
                                              refine r_aload_nR F 1 rfl rfl d11_law_757 ?_
                                              replace h := wpo_bind h
                                              refine r_callV0 F lm11_93 mf9_kept (vc0 (by decide)) rfl (fr := 1) (lo := 20) (As := []) (rest := []) ⟨Nat.le_of_ble_eq_true rfl, Nat.le_of_ble_eq_true rfl⟩ rfl (Nat.le_of_ble_eq_true rfl) ⟨Nat.le_of_ble_eq_true rfl, Nat.le_of_ble_eq_true rfl⟩ d11_law_758 ?_
                                              refine ok9_kept (by decide)  (kI h (fun a107 h => ?_))
                                              refine r_aload_nR F 2 rfl rfl d11_law_761 ?_
                                              replace h := wpo_bind h
                                              refine r_callV0 F lm11_96 mf10_kept (vc117 (by decide)) rfl (fr := 5) (lo := 113) (As := []) (rest := [vI a107]) ⟨Nat.le_of_ble_eq_true rfl, Nat.le_of_ble_eq_true rfl⟩ rfl (Nat.le_of_ble_eq_true rfl) ⟨Nat.le_of_ble_eq_true rfl, Nat.le_of_ble_eq_true rfl⟩ d11_law_762 ?_
                                              refine ok10_kept (by decide)  (kIm h (fun a108 h => ?_))
                                              refine r_icmp_eq F (tgt := 2092) d11_law_765 (by decide) (fun hb => ?_) (fun hb => ?_)
                                              · replace h := wpo_pos h hb
                                                refine r_iinc F 3 (lv' := [(3, vI (s1.1 + 6)), (0, Value.ref b), (1, vR X 0), (2, vR X 117)]) rfl (Nat.le_of_ble_eq_true rfl) rfl d11_law_2092 ?_
                                                refine r_goto F (tgt := 18) (by decide) d11_law_2095 ?_
                                                refine r_weak [1, 2, 3, 0] rfl ?_
                                                replace h := wpo_inl h
                                                exact h
                                              · replace h := wpo_neg h hb
                                                refine r_iconst F (z := 0) d11_law_768 ?_
                                                exact (wpo_none h).elim
                                            · replace h := wpo_neg h hb19
                                              by_cases hb20 : w32 (and32 (xs s1.1.toNat) 127) = 20
                                              · replace h := wpo_pos h hb20
                                                refine r_tabIn F 20 hb20 d11_law_33 (by decide) (by decide) rfl (tgt := 770) (by decide) ?_
                                                refine r_aload_nR F 1 rfl rfl d11_law_770 ?_
                                                replace h := wpo_bind h
                                                refine r_callV0 F lm11_97 mf9_idle (vc0 (by decide)) rfl (fr := 1) (lo := 20) (As := []) (rest := []) ⟨Nat.le_of_ble_eq_true rfl, Nat.le_of_ble_eq_true rfl⟩ rfl (Nat.le_of_ble_eq_true rfl) ⟨Nat.le_of_ble_eq_true rfl, Nat.le_of_ble_eq_true rfl⟩ d11_law_771 ?_
                                                refine ok9_idle (by decide)  (kI h (fun a105 h => ?_))
                                                refine r_aload_nR F 2 rfl rfl d11_law_774 ?_
                                                replace h := wpo_bind h
                                                refine r_callV0 F lm11_100 mf10_idle (vc117 (by decide)) rfl (fr := 5) (lo := 113) (As := []) (rest := [vI a105]) ⟨Nat.le_of_ble_eq_true rfl, Nat.le_of_ble_eq_true rfl⟩ rfl (Nat.le_of_ble_eq_true rfl) ⟨Nat.le_of_ble_eq_true rfl, Nat.le_of_ble_eq_true rfl⟩ d11_law_775 ?_
                                                refine ok10_idle (by decide)  (kIm h (fun a106 h => ?_))
                                                refine r_icmp_eq F (tgt := 2092) d11_law_778 (by decide) (fun hb => ?_) (fun hb => ?_)
                                                · replace h := wpo_pos h hb
                                                  refine r_iinc F 3 (lv' := [(3, vI (s1.1 + 6)), (0, Value.ref b), (1, vR X 0), (2, vR X 117)]) rfl (Nat.le_of_ble_eq_true rfl) rfl d11_law_2092 ?_
                                                  refine r_goto F (tgt := 18) (by decide) d11_law_2095 ?_
                                                  refine r_weak [1, 2, 3, 0] rfl ?_
                                                  replace h := wpo_inl h
                                                  exact h
                                                · replace h := wpo_neg h hb
                                                  refine r_iconst F (z := 0) d11_law_781 ?_
                                                  exact (wpo_none h).elim
                                              · replace h := wpo_neg h hb20
                                                by_cases hb21 : w32 (and32 (xs s1.1.toNat) 127) = 21
                                                · replace h := wpo_pos h hb21
                                                  refine r_tabIn F 21 hb21 d11_law_33 (by decide) (by decide) rfl (tgt := 783) (by decide) ?_
                                                  refine r_aload_nR F 1 rfl rfl d11_law_783 ?_
                                                  refine r_aload_n F 0 rfl rfl d11_law_784 ?_
                                                  refine r_iload_n F 3 rfl rfl d11_law_785 ?_
                                                  refine r_iconst F (z := 1) d11_law_786 ?_
                                                  refine r_iadd F d11_law_787 ?_
                                                  obtain ⟨hx62, h⟩ := wpo_chk h
                                                  refine r_sld F hL hX hbl hxs hx62 d11_law_788 ?_
                                                  replace h := wpo_bind h
                                                  refine r_callV0 F lm11_101 mf9_big (vc0 (by decide)) rfl (fr := 1) (lo := 21) (As := [vI (xs (s1.1 + 1).toNat)]) (rest := []) ⟨Nat.le_of_ble_eq_true rfl, Nat.le_of_ble_eq_true rfl⟩ rfl (Nat.le_of_ble_eq_true rfl) ⟨Nat.le_of_ble_eq_true rfl, Nat.le_of_ble_eq_true rfl⟩ d11_law_789 ?_
                                                  refine ok9_big (by decide)  (kI h (fun a103 h => ?_))
                                                  refine r_aload_nR F 2 rfl rfl d11_law_792 ?_
                                                  refine r_aload_n F 0 rfl rfl d11_law_793 ?_
                                                  refine r_iload_n F 3 rfl rfl d11_law_794 ?_
                                                  refine r_iconst F (z := 1) d11_law_795 ?_
                                                  refine r_iadd F d11_law_796 ?_
                                                  refine r_sld F hL hX hbl hxs hx62 d11_law_797 ?_
                                                  replace h := wpo_bind h
                                                  refine r_callV0 F lm11_104 mf10_big (vc117 (by decide)) rfl (fr := 6) (lo := 134) (As := [vI (xs (s1.1 + 1).toNat)]) (rest := [vI a103]) ⟨Nat.le_of_ble_eq_true rfl, Nat.le_of_ble_eq_true rfl⟩ rfl (Nat.le_of_ble_eq_true rfl) ⟨Nat.le_of_ble_eq_true rfl, Nat.le_of_ble_eq_true rfl⟩ d11_law_798 ?_
                                                  refine ok10_big (by decide)  (kIm h (fun a104 h => ?_))
                                                  refine r_icmp_eq F (tgt := 2092) d11_law_801 (by decide) (fun hb => ?_) (fun hb => ?_)
                                                  · replace h := wpo_pos h hb
                                                    refine r_iinc F 3 (lv' := [(3, vI (s1.1 + 6)), (0, Value.ref b), (1, vR X 0), (2, vR X 117)]) rfl (Nat.le_of_ble_eq_true rfl) rfl d11_law_2092 ?_
                                                    refine r_goto F (tgt := 18) (by decide) d11_law_2095 ?_
                                                    refine r_weak [1, 2, 3, 0] rfl ?_
                                                    replace h := wpo_inl h
                                                    exact h
                                                  · replace h := wpo_neg h hb
                                                    refine r_iconst F (z := 0) d11_law_804 ?_
                                                    exact (wpo_none h).elim
                                                · replace h := wpo_neg h hb21
                                                  by_cases hb22 : w32 (and32 (xs s1.1.toNat) 127) = 22
                                                  · replace h := wpo_pos h hb22
                                                    refine r_tabIn F 22 hb22 d11_law_33 (by decide) (by decide) rfl (tgt := 806) (by decide) ?_
                                                    refine r_aload_nR F 1 rfl rfl d11_law_806 ?_
                                                    refine r_aload_n F 0 rfl rfl d11_law_807 ?_
                                                    refine r_iload_n F 3 rfl rfl d11_law_808 ?_
                                                    refine r_iconst F (z := 1) d11_law_809 ?_
                                                    refine r_iadd F d11_law_810 ?_
                                                    obtain ⟨hx61, h⟩ := wpo_chk h
                                                    refine r_sld F hL hX hbl hxs hx61 d11_law_811 ?_
                                                    replace h := wpo_bind h
                                                    refine r_callV0 F lm11_105 mf9_suits (vc0 (by decide)) rfl (fr := 3) (lo := 68) (As := [vI (xs (s1.1 + 1).toNat)]) (rest := []) ⟨Nat.le_of_ble_eq_true rfl, Nat.le_of_ble_eq_true rfl⟩ rfl (Nat.le_of_ble_eq_true rfl) ⟨Nat.le_of_ble_eq_true rfl, Nat.le_of_ble_eq_true rfl⟩ d11_law_812 ?_
                                                    refine ok9_suits (by decide)  (kIm h (fun a101 h => ?_))
                                                    refine r_aload_nR F 2 rfl rfl d11_law_815 ?_
                                                    refine r_aload_n F 0 rfl rfl d11_law_816 ?_
                                                    refine r_iload_n F 3 rfl rfl d11_law_817 ?_
                                                    refine r_iconst F (z := 1) d11_law_818 ?_
                                                    refine r_iadd F d11_law_819 ?_
                                                    refine r_sld F hL hX hbl hxs hx61 d11_law_820 ?_
                                                    replace h := wpo_bind h
                                                    refine r_callV0 F lm11_108 mf10_suits (vc117 (by decide)) rfl (fr := 6) (lo := 134) (As := [vI (xs (s1.1 + 1).toNat)]) (rest := [vI a101.1]) ⟨Nat.le_of_ble_eq_true rfl, Nat.le_of_ble_eq_true rfl⟩ rfl (Nat.le_of_ble_eq_true rfl) ⟨Nat.le_of_ble_eq_true rfl, Nat.le_of_ble_eq_true rfl⟩ d11_law_821 ?_
                                                    refine ok10_suits (by decide)  (kIm h (fun a102 h => ?_))
                                                    refine r_icmp_eq F (tgt := 2092) d11_law_824 (by decide) (fun hb => ?_) (fun hb => ?_)
                                                    · replace h := wpo_pos h hb
                                                      refine r_iinc F 3 (lv' := [(3, vI (s1.1 + 6)), (0, Value.ref b), (1, vR X 0), (2, vR X 117)]) rfl (Nat.le_of_ble_eq_true rfl) rfl d11_law_2092 ?_
                                                      refine r_goto F (tgt := 18) (by decide) d11_law_2095 ?_
                                                      refine r_weak [1, 2, 3, 0] rfl ?_
                                                      replace h := wpo_inl h
                                                      exact h
                                                    · replace h := wpo_neg h hb
                                                      refine r_iconst F (z := 0) d11_law_827 ?_
                                                      exact (wpo_none h).elim
                                                  · replace h := wpo_neg h hb22
                                                    by_cases hb23 : w32 (and32 (xs s1.1.toNat) 127) = 23
                                                    · replace h := wpo_pos h hb23
                                                      refine r_tabIn F 23 hb23 d11_law_33 (by decide) (by decide) rfl (tgt := 829) (by decide) ?_
                                                      refine r_aload_nR F 1 rfl rfl d11_law_829 ?_
                                                      replace h := wpo_bind h
                                                      refine r_callV0 F lm11_109 mf9_last (vc0 (by decide)) rfl (fr := 1) (lo := 23) (As := []) (rest := []) ⟨Nat.le_of_ble_eq_true rfl, Nat.le_of_ble_eq_true rfl⟩ rfl (Nat.le_of_ble_eq_true rfl) ⟨Nat.le_of_ble_eq_true rfl, Nat.le_of_ble_eq_true rfl⟩ d11_law_830 ?_
                                                      refine ok9_last (by decide)  (kI h (fun a99 h => ?_))
                                                      refine r_aload_nR F 2 rfl rfl d11_law_833 ?_
                                                      replace h := wpo_bind h
                                                      refine r_callV0 F lm11_112 mf10_last (vc117 (by decide)) rfl (fr := 5) (lo := 113) (As := []) (rest := [vI a99]) ⟨Nat.le_of_ble_eq_true rfl, Nat.le_of_ble_eq_true rfl⟩ rfl (Nat.le_of_ble_eq_true rfl) ⟨Nat.le_of_ble_eq_true rfl, Nat.le_of_ble_eq_true rfl⟩ d11_law_834 ?_
                                                      refine ok10_last (by decide)  (kIm h (fun a100 h => ?_))
                                                      refine r_icmp_eq F (tgt := 2092) d11_law_837 (by decide) (fun hb => ?_) (fun hb => ?_)
                                                      · replace h := wpo_pos h hb
                                                        refine r_iinc F 3 (lv' := [(3, vI (s1.1 + 6)), (0, Value.ref b), (1, vR X 0), (2, vR X 117)]) rfl (Nat.le_of_ble_eq_true rfl) rfl d11_law_2092 ?_
                                                        refine r_goto F (tgt := 18) (by decide) d11_law_2095 ?_
                                                        refine r_weak [1, 2, 3, 0] rfl ?_
                                                        replace h := wpo_inl h
                                                        exact h
                                                      · replace h := wpo_neg h hb
                                                        refine r_iconst F (z := 0) d11_law_840 ?_
                                                        exact (wpo_none h).elim
                                                    · replace h := wpo_neg h hb23
                                                      by_cases hb24 : w32 (and32 (xs s1.1.toNat) 127) = 24
                                                      · replace h := wpo_pos h hb24
                                                        refine r_tabIn F 24 hb24 d11_law_33 (by decide) (by decide) rfl (tgt := 842) (by decide) ?_
                                                        refine r_aload_nR F 1 rfl rfl d11_law_842 ?_
                                                        refine r_aload_n F 0 rfl rfl d11_law_843 ?_
                                                        refine r_iload_n F 3 rfl rfl d11_law_844 ?_
                                                        refine r_iconst F (z := 1) d11_law_845 ?_
                                                        refine r_iadd F d11_law_846 ?_
                                                        obtain ⟨hx60, h⟩ := wpo_chk h
                                                        refine r_sld F hL hX hbl hxs hx60 d11_law_847 ?_
                                                        replace h := wpo_bind h
                                                        refine r_callV0 F lm11_113 mf9_gap (vc0 (by decide)) rfl (fr := 1) (lo := 21) (As := [vI (xs (s1.1 + 1).toNat)]) (rest := []) ⟨Nat.le_of_ble_eq_true rfl, Nat.le_of_ble_eq_true rfl⟩ rfl (Nat.le_of_ble_eq_true rfl) ⟨Nat.le_of_ble_eq_true rfl, Nat.le_of_ble_eq_true rfl⟩ d11_law_848 ?_
                                                        refine ok9_gap (by decide)  (kI h (fun a97 h => ?_))
                                                        refine r_aload_nR F 2 rfl rfl d11_law_851 ?_
                                                        refine r_aload_n F 0 rfl rfl d11_law_852 ?_
                                                        refine r_iload_n F 3 rfl rfl d11_law_853 ?_
                                                        refine r_iconst F (z := 1) d11_law_854 ?_
                                                        refine r_iadd F d11_law_855 ?_
                                                        refine r_sld F hL hX hbl hxs hx60 d11_law_856 ?_
                                                        replace h := wpo_bind h
                                                        refine r_callV0 F lm11_116 mf10_gap (vc117 (by decide)) rfl (fr := 6) (lo := 134) (As := [vI (xs (s1.1 + 1).toNat)]) (rest := [vI a97]) ⟨Nat.le_of_ble_eq_true rfl, Nat.le_of_ble_eq_true rfl⟩ rfl (Nat.le_of_ble_eq_true rfl) ⟨Nat.le_of_ble_eq_true rfl, Nat.le_of_ble_eq_true rfl⟩ d11_law_857 ?_
                                                        refine ok10_gap (by decide)  (kIm h (fun a98 h => ?_))
                                                        refine r_icmp_eq F (tgt := 2092) d11_law_860 (by decide) (fun hb => ?_) (fun hb => ?_)
                                                        · replace h := wpo_pos h hb
                                                          refine r_iinc F 3 (lv' := [(3, vI (s1.1 + 6)), (0, Value.ref b), (1, vR X 0), (2, vR X 117)]) rfl (Nat.le_of_ble_eq_true rfl) rfl d11_law_2092 ?_
                                                          refine r_goto F (tgt := 18) (by decide) d11_law_2095 ?_
                                                          refine r_weak [1, 2, 3, 0] rfl ?_
                                                          replace h := wpo_inl h
                                                          exact h
                                                        · replace h := wpo_neg h hb
                                                          refine r_iconst F (z := 0) d11_law_863 ?_
                                                          exact (wpo_none h).elim
                                                      · replace h := wpo_neg h hb24
                                                        by_cases hb25 : w32 (and32 (xs s1.1.toNat) 127) = 25
                                                        · replace h := wpo_pos h hb25
                                                          refine r_tabIn F 25 hb25 d11_law_33 (by decide) (by decide) rfl (tgt := 865) (by decide) ?_
                                                          refine r_aload_nR F 1 rfl rfl d11_law_865 ?_
                                                          refine r_aload_n F 0 rfl rfl d11_law_866 ?_
                                                          refine r_iload_n F 3 rfl rfl d11_law_867 ?_
                                                          refine r_iconst F (z := 1) d11_law_868 ?_
                                                          refine r_iadd F d11_law_869 ?_
                                                          obtain ⟨hx59, h⟩ := wpo_chk h
                                                          refine r_sld F hL hX hbl hxs hx59 d11_law_870 ?_
                                                          replace h := wpo_bind h
                                                          refine r_callV0 F lm11_117 mf9_without (vc0 (by decide)) rfl (fr := 4) (lo := 89) (As := [vI (xs (s1.1 + 1).toNat)]) (rest := []) ⟨Nat.le_of_ble_eq_true rfl, Nat.le_of_ble_eq_true rfl⟩ rfl (Nat.le_of_ble_eq_true rfl) ⟨Nat.le_of_ble_eq_true rfl, Nat.le_of_ble_eq_true rfl⟩ d11_law_871 ?_
                                                          refine ok9_without (by decide)  (kIm h (fun a95 h => ?_))
                                                          refine r_aload_nR F 2 rfl rfl d11_law_874 ?_
                                                          refine r_aload_n F 0 rfl rfl d11_law_875 ?_
                                                          refine r_iload_n F 3 rfl rfl d11_law_876 ?_
                                                          refine r_iconst F (z := 1) d11_law_877 ?_
                                                          refine r_iadd F d11_law_878 ?_
                                                          refine r_sld F hL hX hbl hxs hx59 d11_law_879 ?_
                                                          replace h := wpo_bind h
                                                          refine r_callV0 F lm11_120 mf10_without (vc117 (by decide)) rfl (fr := 6) (lo := 134) (As := [vI (xs (s1.1 + 1).toNat)]) (rest := [vI a95.1]) ⟨Nat.le_of_ble_eq_true rfl, Nat.le_of_ble_eq_true rfl⟩ rfl (Nat.le_of_ble_eq_true rfl) ⟨Nat.le_of_ble_eq_true rfl, Nat.le_of_ble_eq_true rfl⟩ d11_law_880 ?_
                                                          refine ok10_without (by decide)  (kIm h (fun a96 h => ?_))
                                                          refine r_icmp_eq F (tgt := 2092) d11_law_883 (by decide) (fun hb => ?_) (fun hb => ?_)
                                                          · replace h := wpo_pos h hb
                                                            refine r_iinc F 3 (lv' := [(3, vI (s1.1 + 6)), (0, Value.ref b), (1, vR X 0), (2, vR X 117)]) rfl (Nat.le_of_ble_eq_true rfl) rfl d11_law_2092 ?_
                                                            refine r_goto F (tgt := 18) (by decide) d11_law_2095 ?_
                                                            refine r_weak [1, 2, 3, 0] rfl ?_
                                                            replace h := wpo_inl h
                                                            exact h
                                                          · replace h := wpo_neg h hb
                                                            refine r_iconst F (z := 0) d11_law_886 ?_
                                                            exact (wpo_none h).elim
                                                        · replace h := wpo_neg h hb25
                                                          by_cases hb26 : w32 (and32 (xs s1.1.toNat) 127) = 26
                                                          · replace h := wpo_pos h hb26
                                                            refine r_tabIn F 26 hb26 d11_law_33 (by decide) (by decide) rfl (tgt := 888) (by decide) ?_
                                                            refine r_aload_nR F 1 rfl rfl d11_law_888 ?_
                                                            refine r_aload_n F 0 rfl rfl d11_law_889 ?_
                                                            refine r_iload_n F 3 rfl rfl d11_law_890 ?_
                                                            refine r_iconst F (z := 1) d11_law_891 ?_
                                                            refine r_iadd F d11_law_892 ?_
                                                            obtain ⟨hx58, h⟩ := wpo_chk h
                                                            refine r_sld F hL hX hbl hxs hx58 d11_law_893 ?_
                                                            replace h := wpo_bind h
                                                            refine r_callV0 F lm11_121 mf9_blocks (vc0 (by decide)) rfl (fr := 4) (lo := 89) (As := [vI (xs (s1.1 + 1).toNat)]) (rest := []) ⟨Nat.le_of_ble_eq_true rfl, Nat.le_of_ble_eq_true rfl⟩ rfl (Nat.le_of_ble_eq_true rfl) ⟨Nat.le_of_ble_eq_true rfl, Nat.le_of_ble_eq_true rfl⟩ d11_law_894 ?_
                                                            refine ok9_blocks (by decide)  (kIm h (fun a93 h => ?_))
                                                            refine r_aload_nR F 2 rfl rfl d11_law_897 ?_
                                                            refine r_aload_n F 0 rfl rfl d11_law_898 ?_
                                                            refine r_iload_n F 3 rfl rfl d11_law_899 ?_
                                                            refine r_iconst F (z := 1) d11_law_900 ?_
                                                            refine r_iadd F d11_law_901 ?_
                                                            refine r_sld F hL hX hbl hxs hx58 d11_law_902 ?_
                                                            replace h := wpo_bind h
                                                            refine r_callV0 F lm11_124 mf10_blocks (vc117 (by decide)) rfl (fr := 6) (lo := 134) (As := [vI (xs (s1.1 + 1).toNat)]) (rest := [vI a93.1]) ⟨Nat.le_of_ble_eq_true rfl, Nat.le_of_ble_eq_true rfl⟩ rfl (Nat.le_of_ble_eq_true rfl) ⟨Nat.le_of_ble_eq_true rfl, Nat.le_of_ble_eq_true rfl⟩ d11_law_903 ?_
                                                            refine ok10_blocks (by decide)  (kIm h (fun a94 h => ?_))
                                                            refine r_icmp_eq F (tgt := 2092) d11_law_906 (by decide) (fun hb => ?_) (fun hb => ?_)
                                                            · replace h := wpo_pos h hb
                                                              refine r_iinc F 3 (lv' := [(3, vI (s1.1 + 6)), (0, Value.ref b), (1, vR X 0), (2, vR X 117)]) rfl (Nat.le_of_ble_eq_true rfl) rfl d11_law_2092 ?_
                                                              refine r_goto F (tgt := 18) (by decide) d11_law_2095 ?_
                                                              refine r_weak [1, 2, 3, 0] rfl ?_
                                                              replace h := wpo_inl h
                                                              exact h
                                                            · replace h := wpo_neg h hb
                                                              refine r_iconst F (z := 0) d11_law_909 ?_
                                                              exact (wpo_none h).elim
                                                          · replace h := wpo_neg h hb26
                                                            by_cases hb27 : w32 (and32 (xs s1.1.toNat) 127) = 27
                                                            · replace h := wpo_pos h hb27
                                                              refine r_tabIn F 27 hb27 d11_law_33 (by decide) (by decide) rfl (tgt := 911) (by decide) ?_
                                                              refine r_aload_nR F 1 rfl rfl d11_law_911 ?_
                                                              refine r_aload_n F 0 rfl rfl d11_law_912 ?_
                                                              refine r_iload_n F 3 rfl rfl d11_law_913 ?_
                                                              refine r_iconst F (z := 1) d11_law_914 ?_
                                                              refine r_iadd F d11_law_915 ?_
                                                              obtain ⟨hx57, h⟩ := wpo_chk h
                                                              refine r_sld F hL hX hbl hxs hx57 d11_law_916 ?_
                                                              replace h := wpo_bind h
                                                              refine r_callV0 F lm11_125 mf9_when (vc0 (by decide)) rfl (fr := 1) (lo := 22) (As := [vI (xs (s1.1 + 1).toNat)]) (rest := []) ⟨Nat.le_of_ble_eq_true rfl, Nat.le_of_ble_eq_true rfl⟩ rfl (Nat.le_of_ble_eq_true rfl) ⟨Nat.le_of_ble_eq_true rfl, Nat.le_of_ble_eq_true rfl⟩ d11_law_917 ?_
                                                              refine ok9_when (by decide)  (kI h (fun a91 h => ?_))
                                                              refine r_aload_nR F 2 rfl rfl d11_law_920 ?_
                                                              refine r_aload_n F 0 rfl rfl d11_law_921 ?_
                                                              refine r_iload_n F 3 rfl rfl d11_law_922 ?_
                                                              refine r_iconst F (z := 1) d11_law_923 ?_
                                                              refine r_iadd F d11_law_924 ?_
                                                              refine r_sld F hL hX hbl hxs hx57 d11_law_925 ?_
                                                              replace h := wpo_bind h
                                                              refine r_callV0 F lm11_128 mf10_when (vc117 (by decide)) rfl (fr := 5) (lo := 113) (As := [vI (xs (s1.1 + 1).toNat)]) (rest := [vI a91]) ⟨Nat.le_of_ble_eq_true rfl, Nat.le_of_ble_eq_true rfl⟩ rfl (Nat.le_of_ble_eq_true rfl) ⟨Nat.le_of_ble_eq_true rfl, Nat.le_of_ble_eq_true rfl⟩ d11_law_926 ?_
                                                              refine ok10_when (by decide)  (kIm h (fun a92 h => ?_))
                                                              refine r_icmp_eq F (tgt := 2092) d11_law_929 (by decide) (fun hb => ?_) (fun hb => ?_)
                                                              · replace h := wpo_pos h hb
                                                                refine r_iinc F 3 (lv' := [(3, vI (s1.1 + 6)), (0, Value.ref b), (1, vR X 0), (2, vR X 117)]) rfl (Nat.le_of_ble_eq_true rfl) rfl d11_law_2092 ?_
                                                                refine r_goto F (tgt := 18) (by decide) d11_law_2095 ?_
                                                                refine r_weak [1, 2, 3, 0] rfl ?_
                                                                replace h := wpo_inl h
                                                                exact h
                                                              · replace h := wpo_neg h hb
                                                                refine r_iconst F (z := 0) d11_law_932 ?_
                                                                exact (wpo_none h).elim
                                                            · replace h := wpo_neg h hb27
                                                              by_cases hb28 : w32 (and32 (xs s1.1.toNat) 127) = 28
                                                              · replace h := wpo_pos h hb28
                                                                refine r_tabIn F 28 hb28 d11_law_33 (by decide) (by decide) rfl (tgt := 934) (by decide) ?_
                                                                refine r_aload_nR F 1 rfl rfl d11_law_934 ?_
                                                                refine r_aload_n F 0 rfl rfl d11_law_935 ?_
                                                                refine r_iload_n F 3 rfl rfl d11_law_936 ?_
                                                                refine r_iconst F (z := 1) d11_law_937 ?_
                                                                refine r_iadd F d11_law_938 ?_
                                                                obtain ⟨hx55, h⟩ := wpo_chk h
                                                                refine r_sld F hL hX hbl hxs hx55 d11_law_939 ?_
                                                                refine r_aload_n F 0 rfl rfl d11_law_940 ?_
                                                                refine r_iload_n F 3 rfl rfl d11_law_941 ?_
                                                                refine r_iconst F (z := 2) d11_law_942 ?_
                                                                refine r_iadd F d11_law_943 ?_
                                                                obtain ⟨hx56, h⟩ := wpo_chk h
                                                                refine r_sld F hL hX hbl hxs hx56 d11_law_944 ?_
                                                                replace h := wpo_bind h
                                                                refine r_callV0 F lm11_129 mf9_share (vc0 (by decide)) rfl (fr := 2) (lo := 54) (As := [vI (xs (s1.1 + 1).toNat), vI (xs (s1.1 + 2).toNat)]) (rest := []) ⟨Nat.le_of_ble_eq_true rfl, Nat.le_of_ble_eq_true rfl⟩ rfl (Nat.le_of_ble_eq_true rfl) ⟨Nat.le_of_ble_eq_true rfl, Nat.le_of_ble_eq_true rfl⟩ d11_law_945 ?_
                                                                refine ok9_share (by decide)  (kI h (fun a89 h => ?_))
                                                                refine r_aload_nR F 2 rfl rfl d11_law_948 ?_
                                                                refine r_aload_n F 0 rfl rfl d11_law_949 ?_
                                                                refine r_iload_n F 3 rfl rfl d11_law_950 ?_
                                                                refine r_iconst F (z := 1) d11_law_951 ?_
                                                                refine r_iadd F d11_law_952 ?_
                                                                refine r_sld F hL hX hbl hxs hx55 d11_law_953 ?_
                                                                refine r_aload_n F 0 rfl rfl d11_law_954 ?_
                                                                refine r_iload_n F 3 rfl rfl d11_law_955 ?_
                                                                refine r_iconst F (z := 2) d11_law_956 ?_
                                                                refine r_iadd F d11_law_957 ?_
                                                                refine r_sld F hL hX hbl hxs hx56 d11_law_958 ?_
                                                                replace h := wpo_bind h
                                                                refine r_callV0 F lm11_132 mf10_share (vc117 (by decide)) rfl (fr := 6) (lo := 134) (As := [vI (xs (s1.1 + 1).toNat), vI (xs (s1.1 + 2).toNat)]) (rest := [vI a89]) ⟨Nat.le_of_ble_eq_true rfl, Nat.le_of_ble_eq_true rfl⟩ rfl (Nat.le_of_ble_eq_true rfl) ⟨Nat.le_of_ble_eq_true rfl, Nat.le_of_ble_eq_true rfl⟩ d11_law_959 ?_
                                                                refine ok10_share (by decide)  (kIm h (fun a90 h => ?_))
                                                                refine r_icmp_eq F (tgt := 2092) d11_law_962 (by decide) (fun hb => ?_) (fun hb => ?_)
                                                                · replace h := wpo_pos h hb
                                                                  refine r_iinc F 3 (lv' := [(3, vI (s1.1 + 6)), (0, Value.ref b), (1, vR X 0), (2, vR X 117)]) rfl (Nat.le_of_ble_eq_true rfl) rfl d11_law_2092 ?_
                                                                  refine r_goto F (tgt := 18) (by decide) d11_law_2095 ?_
                                                                  refine r_weak [1, 2, 3, 0] rfl ?_
                                                                  replace h := wpo_inl h
                                                                  exact h
                                                                · replace h := wpo_neg h hb
                                                                  refine r_iconst F (z := 0) d11_law_965 ?_
                                                                  exact (wpo_none h).elim
                                                              · replace h := wpo_neg h hb28
                                                                by_cases hb29 : w32 (and32 (xs s1.1.toNat) 127) = 29
                                                                · replace h := wpo_pos h hb29
                                                                  refine r_tabIn F 29 hb29 d11_law_33 (by decide) (by decide) rfl (tgt := 967) (by decide) ?_
                                                                  refine r_aload_nR F 1 rfl rfl d11_law_967 ?_
                                                                  replace h := wpo_bind h
                                                                  refine r_callV0 F lm11_133 mf9_wide (vc0 (by decide)) rfl (fr := 3) (lo := 68) (As := []) (rest := []) ⟨Nat.le_of_ble_eq_true rfl, Nat.le_of_ble_eq_true rfl⟩ rfl (Nat.le_of_ble_eq_true rfl) ⟨Nat.le_of_ble_eq_true rfl, Nat.le_of_ble_eq_true rfl⟩ d11_law_968 ?_
                                                                  refine ok9_wide (by decide)  (kIm h (fun a87 h => ?_))
                                                                  refine r_aload_nR F 2 rfl rfl d11_law_971 ?_
                                                                  replace h := wpo_bind h
                                                                  refine r_callV0 F lm11_136 mf10_wide (vc117 (by decide)) rfl (fr := 5) (lo := 113) (As := []) (rest := [vI a87.1]) ⟨Nat.le_of_ble_eq_true rfl, Nat.le_of_ble_eq_true rfl⟩ rfl (Nat.le_of_ble_eq_true rfl) ⟨Nat.le_of_ble_eq_true rfl, Nat.le_of_ble_eq_true rfl⟩ d11_law_972 ?_
                                                                  refine ok10_wide (by decide)  (kIm h (fun a88 h => ?_))
                                                                  refine r_icmp_eq F (tgt := 2092) d11_law_975 (by decide) (fun hb => ?_) (fun hb => ?_)
                                                                  · replace h := wpo_pos h hb
                                                                    refine r_iinc F 3 (lv' := [(3, vI (s1.1 + 6)), (0, Value.ref b), (1, vR X 0), (2, vR X 117)]) rfl (Nat.le_of_ble_eq_true rfl) rfl d11_law_2092 ?_
                                                                    refine r_goto F (tgt := 18) (by decide) d11_law_2095 ?_
                                                                    refine r_weak [1, 2, 3, 0] rfl ?_
                                                                    replace h := wpo_inl h
                                                                    exact h
                                                                  · replace h := wpo_neg h hb
                                                                    refine r_iconst F (z := 0) d11_law_978 ?_
                                                                    exact (wpo_none h).elim
                                                                · replace h := wpo_neg h hb29
                                                                  by_cases hb30 : w32 (and32 (xs s1.1.toNat) 127) = 30
                                                                  · replace h := wpo_pos h hb30
                                                                    refine r_tabIn F 30 hb30 d11_law_33 (by decide) (by decide) rfl (tgt := 980) (by decide) ?_
                                                                    refine r_aload_nR F 1 rfl rfl d11_law_980 ?_
                                                                    refine r_aload_n F 0 rfl rfl d11_law_981 ?_
                                                                    refine r_iload_n F 3 rfl rfl d11_law_982 ?_
                                                                    refine r_iconst F (z := 1) d11_law_983 ?_
                                                                    refine r_iadd F d11_law_984 ?_
                                                                    obtain ⟨hx54, h⟩ := wpo_chk h
                                                                    refine r_sld F hL hX hbl hxs hx54 d11_law_985 ?_
                                                                    replace h := wpo_bind h
                                                                    refine r_callV0 F lm11_137 mf9_mild (vc0 (by decide)) rfl (fr := 1) (lo := 20) (As := [vI (xs (s1.1 + 1).toNat)]) (rest := []) ⟨Nat.le_of_ble_eq_true rfl, Nat.le_of_ble_eq_true rfl⟩ rfl (Nat.le_of_ble_eq_true rfl) ⟨Nat.le_of_ble_eq_true rfl, Nat.le_of_ble_eq_true rfl⟩ d11_law_986 ?_
                                                                    refine ok9_mild (by decide)  (kI h (fun a85 h => ?_))
                                                                    refine r_aload_nR F 2 rfl rfl d11_law_989 ?_
                                                                    refine r_aload_n F 0 rfl rfl d11_law_990 ?_
                                                                    refine r_iload_n F 3 rfl rfl d11_law_991 ?_
                                                                    refine r_iconst F (z := 1) d11_law_992 ?_
                                                                    refine r_iadd F d11_law_993 ?_
                                                                    refine r_sld F hL hX hbl hxs hx54 d11_law_994 ?_
                                                                    replace h := wpo_bind h
                                                                    refine r_callV0 F lm11_140 mf10_mild (vc117 (by decide)) rfl (fr := 3) (lo := 65) (As := [vI (xs (s1.1 + 1).toNat)]) (rest := [vI a85]) ⟨Nat.le_of_ble_eq_true rfl, Nat.le_of_ble_eq_true rfl⟩ rfl (Nat.le_of_ble_eq_true rfl) ⟨Nat.le_of_ble_eq_true rfl, Nat.le_of_ble_eq_true rfl⟩ d11_law_995 ?_
                                                                    refine ok10_mild (by decide)  (kIm h (fun a86 h => ?_))
                                                                    refine r_icmp_eq F (tgt := 2092) d11_law_998 (by decide) (fun hb => ?_) (fun hb => ?_)
                                                                    · replace h := wpo_pos h hb
                                                                      refine r_iinc F 3 (lv' := [(3, vI (s1.1 + 6)), (0, Value.ref b), (1, vR X 0), (2, vR X 117)]) rfl (Nat.le_of_ble_eq_true rfl) rfl d11_law_2092 ?_
                                                                      refine r_goto F (tgt := 18) (by decide) d11_law_2095 ?_
                                                                      refine r_weak [1, 2, 3, 0] rfl ?_
                                                                      replace h := wpo_inl h
                                                                      exact h
                                                                    · replace h := wpo_neg h hb
                                                                      refine r_iconst F (z := 0) d11_law_1001 ?_
                                                                      exact (wpo_none h).elim
                                                                  · replace h := wpo_neg h hb30
                                                                    by_cases hb31 : w32 (and32 (xs s1.1.toNat) 127) = 31
                                                                    · replace h := wpo_pos h hb31
                                                                      refine r_tabIn F 31 hb31 d11_law_33 (by decide) (by decide) rfl (tgt := 1003) (by decide) ?_
                                                                      refine r_aload_nR F 1 rfl rfl d11_law_1003 ?_
                                                                      replace h := wpo_bind h
                                                                      refine r_callV0 F lm11_141 mf9_regret (vc0 (by decide)) rfl (fr := 4) (lo := 104) (As := []) (rest := []) ⟨Nat.le_of_ble_eq_true rfl, Nat.le_of_ble_eq_true rfl⟩ rfl (Nat.le_of_ble_eq_true rfl) ⟨Nat.le_of_ble_eq_true rfl, Nat.le_of_ble_eq_true rfl⟩ d11_law_1004 ?_
                                                                      refine ok9_regret (by decide)  (kIm h (fun a83 h => ?_))
                                                                      refine r_aload_nR F 2 rfl rfl d11_law_1007 ?_
                                                                      replace h := wpo_bind h
                                                                      refine r_callV0 F lm11_144 mf10_regret (vc117 (by decide)) rfl (fr := 5) (lo := 113) (As := []) (rest := [vI a83.1]) ⟨Nat.le_of_ble_eq_true rfl, Nat.le_of_ble_eq_true rfl⟩ rfl (Nat.le_of_ble_eq_true rfl) ⟨Nat.le_of_ble_eq_true rfl, Nat.le_of_ble_eq_true rfl⟩ d11_law_1008 ?_
                                                                      refine ok10_regret (by decide)  (kIm h (fun a84 h => ?_))
                                                                      refine r_icmp_eq F (tgt := 2092) d11_law_1011 (by decide) (fun hb => ?_) (fun hb => ?_)
                                                                      · replace h := wpo_pos h hb
                                                                        refine r_iinc F 3 (lv' := [(3, vI (s1.1 + 6)), (0, Value.ref b), (1, vR X 0), (2, vR X 117)]) rfl (Nat.le_of_ble_eq_true rfl) rfl d11_law_2092 ?_
                                                                        refine r_goto F (tgt := 18) (by decide) d11_law_2095 ?_
                                                                        refine r_weak [1, 2, 3, 0] rfl ?_
                                                                        replace h := wpo_inl h
                                                                        exact h
                                                                      · replace h := wpo_neg h hb
                                                                        refine r_iconst F (z := 0) d11_law_1014 ?_
                                                                        exact (wpo_none h).elim
                                                                    · replace h := wpo_neg h hb31
                                                                      by_cases hb32 : w32 (and32 (xs s1.1.toNat) 127) = 32
                                                                      · replace h := wpo_pos h hb32
                                                                        refine r_tabIn F 32 hb32 d11_law_33 (by decide) (by decide) rfl (tgt := 1016) (by decide) ?_
                                                                        refine r_aload_nR F 1 rfl rfl d11_law_1016 ?_
                                                                        replace h := wpo_bind h
                                                                        refine r_callV0 F lm11_145 mf9_spoons (vc0 (by decide)) rfl (fr := 3) (lo := 70) (As := []) (rest := []) ⟨Nat.le_of_ble_eq_true rfl, Nat.le_of_ble_eq_true rfl⟩ rfl (Nat.le_of_ble_eq_true rfl) ⟨Nat.le_of_ble_eq_true rfl, Nat.le_of_ble_eq_true rfl⟩ d11_law_1017 ?_
                                                                        refine ok9_spoons (by decide)  (kIm h (fun a81 h => ?_))
                                                                        refine r_aload_nR F 2 rfl rfl d11_law_1020 ?_
                                                                        replace h := wpo_bind h
                                                                        refine r_callV0 F lm11_148 mf10_spoons (vc117 (by decide)) rfl (fr := 4) (lo := 96) (As := []) (rest := [vI a81.1]) ⟨Nat.le_of_ble_eq_true rfl, Nat.le_of_ble_eq_true rfl⟩ rfl (Nat.le_of_ble_eq_true rfl) ⟨Nat.le_of_ble_eq_true rfl, Nat.le_of_ble_eq_true rfl⟩ d11_law_1021 ?_
                                                                        refine ok10_spoons (by decide)  (kIm h (fun a82 h => ?_))
                                                                        refine r_icmp_eq F (tgt := 2092) d11_law_1024 (by decide) (fun hb => ?_) (fun hb => ?_)
                                                                        · replace h := wpo_pos h hb
                                                                          refine r_iinc F 3 (lv' := [(3, vI (s1.1 + 6)), (0, Value.ref b), (1, vR X 0), (2, vR X 117)]) rfl (Nat.le_of_ble_eq_true rfl) rfl d11_law_2092 ?_
                                                                          refine r_goto F (tgt := 18) (by decide) d11_law_2095 ?_
                                                                          refine r_weak [1, 2, 3, 0] rfl ?_
                                                                          replace h := wpo_inl h
                                                                          exact h
                                                                        · replace h := wpo_neg h hb
                                                                          refine r_iconst F (z := 0) d11_law_1027 ?_
                                                                          exact (wpo_none h).elim
                                                                      · replace h := wpo_neg h hb32
                                                                        by_cases hb33 : w32 (and32 (xs s1.1.toNat) 127) = 33
                                                                        · replace h := wpo_pos h hb33
                                                                          refine r_tabIn F 33 hb33 d11_law_33 (by decide) (by decide) rfl (tgt := 1029) (by decide) ?_
                                                                          refine r_aload_nR F 1 rfl rfl d11_law_1029 ?_
                                                                          replace h := wpo_bind h
                                                                          refine r_callV0 F lm11_149 mf9_lonely (vc0 (by decide)) rfl (fr := 3) (lo := 70) (As := []) (rest := []) ⟨Nat.le_of_ble_eq_true rfl, Nat.le_of_ble_eq_true rfl⟩ rfl (Nat.le_of_ble_eq_true rfl) ⟨Nat.le_of_ble_eq_true rfl, Nat.le_of_ble_eq_true rfl⟩ d11_law_1030 ?_
                                                                          refine ok9_lonely (by decide)  (kIm h (fun a79 h => ?_))
                                                                          refine r_aload_nR F 2 rfl rfl d11_law_1033 ?_
                                                                          replace h := wpo_bind h
                                                                          refine r_callV0 F lm11_152 mf10_lonely (vc117 (by decide)) rfl (fr := 4) (lo := 96) (As := []) (rest := [vI a79.1]) ⟨Nat.le_of_ble_eq_true rfl, Nat.le_of_ble_eq_true rfl⟩ rfl (Nat.le_of_ble_eq_true rfl) ⟨Nat.le_of_ble_eq_true rfl, Nat.le_of_ble_eq_true rfl⟩ d11_law_1034 ?_
                                                                          refine ok10_lonely (by decide)  (kIm h (fun a80 h => ?_))
                                                                          refine r_icmp_eq F (tgt := 2092) d11_law_1037 (by decide) (fun hb => ?_) (fun hb => ?_)
                                                                          · replace h := wpo_pos h hb
                                                                            refine r_iinc F 3 (lv' := [(3, vI (s1.1 + 6)), (0, Value.ref b), (1, vR X 0), (2, vR X 117)]) rfl (Nat.le_of_ble_eq_true rfl) rfl d11_law_2092 ?_
                                                                            refine r_goto F (tgt := 18) (by decide) d11_law_2095 ?_
                                                                            refine r_weak [1, 2, 3, 0] rfl ?_
                                                                            replace h := wpo_inl h
                                                                            exact h
                                                                          · replace h := wpo_neg h hb
                                                                            refine r_iconst F (z := 0) d11_law_1040 ?_
                                                                            exact (wpo_none h).elim
                                                                        · replace h := wpo_neg h hb33
                                                                          by_cases hb34 : w32 (and32 (xs s1.1.toNat) 127) = 34
                                                                          · replace h := wpo_pos h hb34
                                                                            refine r_tabIn F 34 hb34 d11_law_33 (by decide) (by decide) rfl (tgt := 1042) (by decide) ?_
                                                                            refine r_aload_nR F 1 rfl rfl d11_law_1042 ?_
                                                                            refine r_aload_n F 0 rfl rfl d11_law_1043 ?_
                                                                            refine r_iload_n F 3 rfl rfl d11_law_1044 ?_
                                                                            refine r_iconst F (z := 1) d11_law_1045 ?_
                                                                            refine r_iadd F d11_law_1046 ?_
                                                                            obtain ⟨hx53, h⟩ := wpo_chk h
                                                                            refine r_sld F hL hX hbl hxs hx53 d11_law_1047 ?_
                                                                            replace h := wpo_bind h
                                                                            refine r_callV0 F lm11_153 mf9_costs (vc0 (by decide)) rfl (fr := 3) (lo := 70) (As := [vI (xs (s1.1 + 1).toNat)]) (rest := []) ⟨Nat.le_of_ble_eq_true rfl, Nat.le_of_ble_eq_true rfl⟩ rfl (Nat.le_of_ble_eq_true rfl) ⟨Nat.le_of_ble_eq_true rfl, Nat.le_of_ble_eq_true rfl⟩ d11_law_1048 ?_
                                                                            refine ok9_costs (by decide)  (kIm h (fun a77 h => ?_))
                                                                            refine r_aload_nR F 2 rfl rfl d11_law_1051 ?_
                                                                            refine r_aload_n F 0 rfl rfl d11_law_1052 ?_
                                                                            refine r_iload_n F 3 rfl rfl d11_law_1053 ?_
                                                                            refine r_iconst F (z := 1) d11_law_1054 ?_
                                                                            refine r_iadd F d11_law_1055 ?_
                                                                            refine r_sld F hL hX hbl hxs hx53 d11_law_1056 ?_
                                                                            replace h := wpo_bind h
                                                                            refine r_callV0 F lm11_156 mf10_costs (vc117 (by decide)) rfl (fr := 5) (lo := 107) (As := [vI (xs (s1.1 + 1).toNat)]) (rest := [vI a77.1]) ⟨Nat.le_of_ble_eq_true rfl, Nat.le_of_ble_eq_true rfl⟩ rfl (Nat.le_of_ble_eq_true rfl) ⟨Nat.le_of_ble_eq_true rfl, Nat.le_of_ble_eq_true rfl⟩ d11_law_1057 ?_
                                                                            refine ok10_costs (by decide)  (kIm h (fun a78 h => ?_))
                                                                            refine r_icmp_eq F (tgt := 2092) d11_law_1060 (by decide) (fun hb => ?_) (fun hb => ?_)
                                                                            · replace h := wpo_pos h hb
                                                                              refine r_iinc F 3 (lv' := [(3, vI (s1.1 + 6)), (0, Value.ref b), (1, vR X 0), (2, vR X 117)]) rfl (Nat.le_of_ble_eq_true rfl) rfl d11_law_2092 ?_
                                                                              refine r_goto F (tgt := 18) (by decide) d11_law_2095 ?_
                                                                              refine r_weak [1, 2, 3, 0] rfl ?_
                                                                              replace h := wpo_inl h
                                                                              exact h
                                                                            · replace h := wpo_neg h hb
                                                                              refine r_iconst F (z := 0) d11_law_1063 ?_
                                                                              exact (wpo_none h).elim
                                                                          · replace h := wpo_neg h hb34
                                                                            by_cases hb35 : w32 (and32 (xs s1.1.toNat) 127) = 35
                                                                            · replace h := wpo_pos h hb35
                                                                              refine r_tabIn F 35 hb35 d11_law_33 (by decide) (by decide) rfl (tgt := 1065) (by decide) ?_
                                                                              refine r_aload_nR F 1 rfl rfl d11_law_1065 ?_
                                                                              replace h := wpo_bind h
                                                                              refine r_callV0 F lm11_157 mf9_least (vc0 (by decide)) rfl (fr := 4) (lo := 104) (As := []) (rest := []) ⟨Nat.le_of_ble_eq_true rfl, Nat.le_of_ble_eq_true rfl⟩ rfl (Nat.le_of_ble_eq_true rfl) ⟨Nat.le_of_ble_eq_true rfl, Nat.le_of_ble_eq_true rfl⟩ d11_law_1066 ?_
                                                                              refine ok9_least (by decide)  (kIm h (fun a75 h => ?_))
                                                                              refine r_aload_nR F 2 rfl rfl d11_law_1069 ?_
                                                                              replace h := wpo_bind h
                                                                              refine r_callV0 F lm11_160 mf10_least (vc117 (by decide)) rfl (fr := 4) (lo := 87) (As := []) (rest := [vI a75.1]) ⟨Nat.le_of_ble_eq_true rfl, Nat.le_of_ble_eq_true rfl⟩ rfl (Nat.le_of_ble_eq_true rfl) ⟨Nat.le_of_ble_eq_true rfl, Nat.le_of_ble_eq_true rfl⟩ d11_law_1070 ?_
                                                                              refine ok10_least (by decide)  (kIm h (fun a76 h => ?_))
                                                                              refine r_icmp_eq F (tgt := 2092) d11_law_1073 (by decide) (fun hb => ?_) (fun hb => ?_)
                                                                              · replace h := wpo_pos h hb
                                                                                refine r_iinc F 3 (lv' := [(3, vI (s1.1 + 6)), (0, Value.ref b), (1, vR X 0), (2, vR X 117)]) rfl (Nat.le_of_ble_eq_true rfl) rfl d11_law_2092 ?_
                                                                                refine r_goto F (tgt := 18) (by decide) d11_law_2095 ?_
                                                                                refine r_weak [1, 2, 3, 0] rfl ?_
                                                                                replace h := wpo_inl h
                                                                                exact h
                                                                              · replace h := wpo_neg h hb
                                                                                refine r_iconst F (z := 0) d11_law_1076 ?_
                                                                                exact (wpo_none h).elim
                                                                            · replace h := wpo_neg h hb35
                                                                              by_cases hb36 : w32 (and32 (xs s1.1.toNat) 127) = 36
                                                                              · replace h := wpo_pos h hb36
                                                                                refine r_tabIn F 36 hb36 d11_law_33 (by decide) (by decide) rfl (tgt := 1078) (by decide) ?_
                                                                                refine r_aload_nR F 1 rfl rfl d11_law_1078 ?_
                                                                                refine r_aload_n F 0 rfl rfl d11_law_1079 ?_
                                                                                refine r_iload_n F 3 rfl rfl d11_law_1080 ?_
                                                                                refine r_iconst F (z := 1) d11_law_1081 ?_
                                                                                refine r_iadd F d11_law_1082 ?_
                                                                                obtain ⟨hx52, h⟩ := wpo_chk h
                                                                                refine r_sld F hL hX hbl hxs hx52 d11_law_1083 ?_
                                                                                replace h := wpo_bind h
                                                                                refine r_callV0 F lm11_161 mf9_plan (vc0 (by decide)) rfl (fr := 4) (lo := 104) (As := [vI (xs (s1.1 + 1).toNat)]) (rest := []) ⟨Nat.le_of_ble_eq_true rfl, Nat.le_of_ble_eq_true rfl⟩ rfl (Nat.le_of_ble_eq_true rfl) ⟨Nat.le_of_ble_eq_true rfl, Nat.le_of_ble_eq_true rfl⟩ d11_law_1084 ?_
                                                                                refine ok9_plan (by decide)  (kIm h (fun a73 h => ?_))
                                                                                refine r_aload_nR F 2 rfl rfl d11_law_1087 ?_
                                                                                refine r_aload_n F 0 rfl rfl d11_law_1088 ?_
                                                                                refine r_iload_n F 3 rfl rfl d11_law_1089 ?_
                                                                                refine r_iconst F (z := 1) d11_law_1090 ?_
                                                                                refine r_iadd F d11_law_1091 ?_
                                                                                refine r_sld F hL hX hbl hxs hx52 d11_law_1092 ?_
                                                                                replace h := wpo_bind h
                                                                                refine r_callV0 F lm11_164 mf10_plan (vc117 (by decide)) rfl (fr := 4) (lo := 87) (As := [vI (xs (s1.1 + 1).toNat)]) (rest := [vI a73.1]) ⟨Nat.le_of_ble_eq_true rfl, Nat.le_of_ble_eq_true rfl⟩ rfl (Nat.le_of_ble_eq_true rfl) ⟨Nat.le_of_ble_eq_true rfl, Nat.le_of_ble_eq_true rfl⟩ d11_law_1093 ?_
                                                                                refine ok10_plan (by decide)  (kIm h (fun a74 h => ?_))
                                                                                refine r_icmp_eq F (tgt := 2092) d11_law_1096 (by decide) (fun hb => ?_) (fun hb => ?_)
                                                                                · replace h := wpo_pos h hb
                                                                                  refine r_iinc F 3 (lv' := [(3, vI (s1.1 + 6)), (0, Value.ref b), (1, vR X 0), (2, vR X 117)]) rfl (Nat.le_of_ble_eq_true rfl) rfl d11_law_2092 ?_
                                                                                  refine r_goto F (tgt := 18) (by decide) d11_law_2095 ?_
                                                                                  refine r_weak [1, 2, 3, 0] rfl ?_
                                                                                  replace h := wpo_inl h
                                                                                  exact h
                                                                                · replace h := wpo_neg h hb
                                                                                  refine r_iconst F (z := 0) d11_law_1099 ?_
                                                                                  exact (wpo_none h).elim
                                                                              · replace h := wpo_neg h hb36
                                                                                by_cases hb37 : w32 (and32 (xs s1.1.toNat) 127) = 37
                                                                                · replace h := wpo_pos h hb37
                                                                                  refine r_tabIn F 37 hb37 d11_law_33 (by decide) (by decide) rfl (tgt := 1101) (by decide) ?_
                                                                                  refine r_aload_nR F 1 rfl rfl d11_law_1101 ?_
                                                                                  replace h := wpo_bind h
                                                                                  refine r_callV0 F lm11_165 mf9_ways (vc0 (by decide)) rfl (fr := 4) (lo := 104) (As := []) (rest := []) ⟨Nat.le_of_ble_eq_true rfl, Nat.le_of_ble_eq_true rfl⟩ rfl (Nat.le_of_ble_eq_true rfl) ⟨Nat.le_of_ble_eq_true rfl, Nat.le_of_ble_eq_true rfl⟩ d11_law_1102 ?_
                                                                                  refine ok9_ways (by decide)  (kLm h (fun a71 h => ?_))
                                                                                  refine r_aload_nR F 2 rfl rfl d11_law_1105 ?_
                                                                                  replace h := wpo_bind h
                                                                                  refine r_callV0 F lm11_169 mf10_ways (vc117 (by decide)) rfl (fr := 4) (lo := 87) (As := []) (rest := [vL a71.1]) ⟨Nat.le_of_ble_eq_true rfl, Nat.le_of_ble_eq_true rfl⟩ rfl (Nat.le_of_ble_eq_true rfl) ⟨Nat.le_of_ble_eq_true rfl, Nat.le_of_ble_eq_true rfl⟩ d11_law_1106 ?_
                                                                                  refine ok10_ways (by decide)  (kLm h (fun a72 h => ?_))
                                                                                  refine r_lc_eq F (tgt := 2092) d11_law_1109 d11_law_1110 (by decide) (fun hb => ?_) (fun hb => ?_)
                                                                                  · replace h := wpo_pos h hb
                                                                                    refine r_iinc F 3 (lv' := [(3, vI (s1.1 + 6)), (0, Value.ref b), (1, vR X 0), (2, vR X 117)]) rfl (Nat.le_of_ble_eq_true rfl) rfl d11_law_2092 ?_
                                                                                    refine r_goto F (tgt := 18) (by decide) d11_law_2095 ?_
                                                                                    refine r_weak [1, 2, 3, 0] rfl ?_
                                                                                    replace h := wpo_inl h
                                                                                    exact h
                                                                                  · replace h := wpo_neg h hb
                                                                                    refine r_iconst F (z := 0) d11_law_1113 ?_
                                                                                    exact (wpo_none h).elim
                                                                                · replace h := wpo_neg h hb37
                                                                                  by_cases hb38 : w32 (and32 (xs s1.1.toNat) 127) = 38
                                                                                  · replace h := wpo_pos h hb38
                                                                                    refine r_tabIn F 38 hb38 d11_law_33 (by decide) (by decide) rfl (tgt := 1115) (by decide) ?_
                                                                                    refine r_aload_nR F 1 rfl rfl d11_law_1115 ?_
                                                                                    refine r_aload_n F 0 rfl rfl d11_law_1116 ?_
                                                                                    refine r_iload_n F 3 rfl rfl d11_law_1117 ?_
                                                                                    refine r_iconst F (z := 1) d11_law_1118 ?_
                                                                                    refine r_iadd F d11_law_1119 ?_
                                                                                    obtain ⟨hx51, h⟩ := wpo_chk h
                                                                                    refine r_sld F hL hX hbl hxs hx51 d11_law_1120 ?_
                                                                                    replace h := wpo_bind h
                                                                                    refine r_callV0 F lm11_170 mf9_room (vc0 (by decide)) rfl (fr := 5) (lo := 136) (As := [vI (xs (s1.1 + 1).toNat)]) (rest := []) ⟨Nat.le_of_ble_eq_true rfl, Nat.le_of_ble_eq_true rfl⟩ rfl (Nat.le_of_ble_eq_true rfl) ⟨Nat.le_of_ble_eq_true rfl, Nat.le_of_ble_eq_true rfl⟩ d11_law_1121 ?_
                                                                                    refine ok9_room (by decide)  (kIm h (fun a69 h => ?_))
                                                                                    refine r_aload_nR F 2 rfl rfl d11_law_1124 ?_
                                                                                    refine r_aload_n F 0 rfl rfl d11_law_1125 ?_
                                                                                    refine r_iload_n F 3 rfl rfl d11_law_1126 ?_
                                                                                    refine r_iconst F (z := 1) d11_law_1127 ?_
                                                                                    refine r_iadd F d11_law_1128 ?_
                                                                                    refine r_sld F hL hX hbl hxs hx51 d11_law_1129 ?_
                                                                                    replace h := wpo_bind h
                                                                                    refine r_callV0 F lm11_173 mf10_room (vc117 (by decide)) rfl (fr := 4) (lo := 87) (As := [vI (xs (s1.1 + 1).toNat)]) (rest := [vI a69.1]) ⟨Nat.le_of_ble_eq_true rfl, Nat.le_of_ble_eq_true rfl⟩ rfl (Nat.le_of_ble_eq_true rfl) ⟨Nat.le_of_ble_eq_true rfl, Nat.le_of_ble_eq_true rfl⟩ d11_law_1130 ?_
                                                                                    refine ok10_room (by decide)  (kIm h (fun a70 h => ?_))
                                                                                    refine r_icmp_eq F (tgt := 2092) d11_law_1133 (by decide) (fun hb => ?_) (fun hb => ?_)
                                                                                    · replace h := wpo_pos h hb
                                                                                      refine r_iinc F 3 (lv' := [(3, vI (s1.1 + 6)), (0, Value.ref b), (1, vR X 0), (2, vR X 117)]) rfl (Nat.le_of_ble_eq_true rfl) rfl d11_law_2092 ?_
                                                                                      refine r_goto F (tgt := 18) (by decide) d11_law_2095 ?_
                                                                                      refine r_weak [1, 2, 3, 0] rfl ?_
                                                                                      replace h := wpo_inl h
                                                                                      exact h
                                                                                    · replace h := wpo_neg h hb
                                                                                      refine r_iconst F (z := 0) d11_law_1136 ?_
                                                                                      exact (wpo_none h).elim
                                                                                  · replace h := wpo_neg h hb38
                                                                                    by_cases hb39 : w32 (and32 (xs s1.1.toNat) 127) = 39
                                                                                    · replace h := wpo_pos h hb39
                                                                                      refine r_tabIn F 39 hb39 d11_law_33 (by decide) (by decide) rfl (tgt := 1138) (by decide) ?_
                                                                                      refine r_aload_nR F 1 rfl rfl d11_law_1138 ?_
                                                                                      refine r_aload_n F 0 rfl rfl d11_law_1139 ?_
                                                                                      refine r_iload_n F 3 rfl rfl d11_law_1140 ?_
                                                                                      refine r_iconst F (z := 1) d11_law_1141 ?_
                                                                                      refine r_iadd F d11_law_1142 ?_
                                                                                      obtain ⟨hx50, h⟩ := wpo_chk h
                                                                                      refine r_sld F hL hX hbl hxs hx50 d11_law_1143 ?_
                                                                                      replace h := wpo_bind h
                                                                                      refine r_callV0 F lm11_174 mf9_by (vc0 (by decide)) rfl (fr := 4) (lo := 89) (As := [vI (xs (s1.1 + 1).toNat)]) (rest := []) ⟨Nat.le_of_ble_eq_true rfl, Nat.le_of_ble_eq_true rfl⟩ rfl (Nat.le_of_ble_eq_true rfl) ⟨Nat.le_of_ble_eq_true rfl, Nat.le_of_ble_eq_true rfl⟩ d11_law_1144 ?_
                                                                                      refine ok9_by (by decide)  (kIm h (fun a67 h => ?_))
                                                                                      refine r_aload_nR F 2 rfl rfl d11_law_1147 ?_
                                                                                      refine r_aload_n F 0 rfl rfl d11_law_1148 ?_
                                                                                      refine r_iload_n F 3 rfl rfl d11_law_1149 ?_
                                                                                      refine r_iconst F (z := 1) d11_law_1150 ?_
                                                                                      refine r_iadd F d11_law_1151 ?_
                                                                                      refine r_sld F hL hX hbl hxs hx50 d11_law_1152 ?_
                                                                                      replace h := wpo_bind h
                                                                                      refine r_callV0 F lm11_177 mf10_by (vc117 (by decide)) rfl (fr := 6) (lo := 130) (As := [vI (xs (s1.1 + 1).toNat)]) (rest := [vI a67.1]) ⟨Nat.le_of_ble_eq_true rfl, Nat.le_of_ble_eq_true rfl⟩ rfl (Nat.le_of_ble_eq_true rfl) ⟨Nat.le_of_ble_eq_true rfl, Nat.le_of_ble_eq_true rfl⟩ d11_law_1153 ?_
                                                                                      refine ok10_by (by decide)  (kIm h (fun a68 h => ?_))
                                                                                      refine r_icmp_eq F (tgt := 2092) d11_law_1156 (by decide) (fun hb => ?_) (fun hb => ?_)
                                                                                      · replace h := wpo_pos h hb
                                                                                        refine r_iinc F 3 (lv' := [(3, vI (s1.1 + 6)), (0, Value.ref b), (1, vR X 0), (2, vR X 117)]) rfl (Nat.le_of_ble_eq_true rfl) rfl d11_law_2092 ?_
                                                                                        refine r_goto F (tgt := 18) (by decide) d11_law_2095 ?_
                                                                                        refine r_weak [1, 2, 3, 0] rfl ?_
                                                                                        replace h := wpo_inl h
                                                                                        exact h
                                                                                      · replace h := wpo_neg h hb
                                                                                        refine r_iconst F (z := 0) d11_law_1159 ?_
                                                                                        exact (wpo_none h).elim
                                                                                    · replace h := wpo_neg h hb39
                                                                                      by_cases hb40 : w32 (and32 (xs s1.1.toNat) 127) = 40
                                                                                      · replace h := wpo_pos h hb40
                                                                                        refine r_tabIn F 40 hb40 d11_law_33 (by decide) (by decide) rfl (tgt := 1161) (by decide) ?_
                                                                                        refine r_aload_nR F 1 rfl rfl d11_law_1161 ?_
                                                                                        replace h := wpo_bind h
                                                                                        refine r_callV0 F lm11_178 mf9_rule (vc0 (by decide)) rfl (fr := 4) (lo := 89) (As := []) (rest := []) ⟨Nat.le_of_ble_eq_true rfl, Nat.le_of_ble_eq_true rfl⟩ rfl (Nat.le_of_ble_eq_true rfl) ⟨Nat.le_of_ble_eq_true rfl, Nat.le_of_ble_eq_true rfl⟩ d11_law_1162 ?_
                                                                                        refine ok9_rule (by decide)  (kIm h (fun a65 h => ?_))
                                                                                        refine r_aload_nR F 2 rfl rfl d11_law_1165 ?_
                                                                                        replace h := wpo_bind h
                                                                                        refine r_callV0 F lm11_181 mf10_rule (vc117 (by decide)) rfl (fr := 6) (lo := 130) (As := []) (rest := [vI a65.1]) ⟨Nat.le_of_ble_eq_true rfl, Nat.le_of_ble_eq_true rfl⟩ rfl (Nat.le_of_ble_eq_true rfl) ⟨Nat.le_of_ble_eq_true rfl, Nat.le_of_ble_eq_true rfl⟩ d11_law_1166 ?_
                                                                                        refine ok10_rule (by decide)  (kIm h (fun a66 h => ?_))
                                                                                        refine r_icmp_eq F (tgt := 2092) d11_law_1169 (by decide) (fun hb => ?_) (fun hb => ?_)
                                                                                        · replace h := wpo_pos h hb
                                                                                          refine r_iinc F 3 (lv' := [(3, vI (s1.1 + 6)), (0, Value.ref b), (1, vR X 0), (2, vR X 117)]) rfl (Nat.le_of_ble_eq_true rfl) rfl d11_law_2092 ?_
                                                                                          refine r_goto F (tgt := 18) (by decide) d11_law_2095 ?_
                                                                                          refine r_weak [1, 2, 3, 0] rfl ?_
                                                                                          replace h := wpo_inl h
                                                                                          exact h
                                                                                        · replace h := wpo_neg h hb
                                                                                          refine r_iconst F (z := 0) d11_law_1172 ?_
                                                                                          exact (wpo_none h).elim
                                                                                      · replace h := wpo_neg h hb40
                                                                                        by_cases hb41 : w32 (and32 (xs s1.1.toNat) 127) = 41
                                                                                        · replace h := wpo_pos h hb41
                                                                                          refine r_tabIn F 41 hb41 d11_law_33 (by decide) (by decide) rfl (tgt := 1174) (by decide) ?_
                                                                                          refine r_aload_nR F 1 rfl rfl d11_law_1174 ?_
                                                                                          refine r_aload_n F 0 rfl rfl d11_law_1175 ?_
                                                                                          refine r_iload_n F 3 rfl rfl d11_law_1176 ?_
                                                                                          refine r_iconst F (z := 1) d11_law_1177 ?_
                                                                                          refine r_iadd F d11_law_1178 ?_
                                                                                          obtain ⟨hx49, h⟩ := wpo_chk h
                                                                                          refine r_sld F hL hX hbl hxs hx49 d11_law_1179 ?_
                                                                                          replace h := wpo_bind h
                                                                                          refine r_callV0 F lm11_182 mf9_groan (vc0 (by decide)) rfl (fr := 5) (lo := 113) (As := [vI (xs (s1.1 + 1).toNat)]) (rest := []) ⟨Nat.le_of_ble_eq_true rfl, Nat.le_of_ble_eq_true rfl⟩ rfl (Nat.le_of_ble_eq_true rfl) ⟨Nat.le_of_ble_eq_true rfl, Nat.le_of_ble_eq_true rfl⟩ d11_law_1180 ?_
                                                                                          refine ok9_groan (by decide)  (kIm h (fun a63 h => ?_))
                                                                                          refine r_aload_nR F 2 rfl rfl d11_law_1183 ?_
                                                                                          refine r_aload_n F 0 rfl rfl d11_law_1184 ?_
                                                                                          refine r_iload_n F 3 rfl rfl d11_law_1185 ?_
                                                                                          refine r_iconst F (z := 1) d11_law_1186 ?_
                                                                                          refine r_iadd F d11_law_1187 ?_
                                                                                          refine r_sld F hL hX hbl hxs hx49 d11_law_1188 ?_
                                                                                          replace h := wpo_bind h
                                                                                          refine r_callV0 F lm11_185 mf10_groan (vc117 (by decide)) rfl (fr := 6) (lo := 134) (As := [vI (xs (s1.1 + 1).toNat)]) (rest := [vI a63.1]) ⟨Nat.le_of_ble_eq_true rfl, Nat.le_of_ble_eq_true rfl⟩ rfl (Nat.le_of_ble_eq_true rfl) ⟨Nat.le_of_ble_eq_true rfl, Nat.le_of_ble_eq_true rfl⟩ d11_law_1189 ?_
                                                                                          refine ok10_groan (by decide)  (kIm h (fun a64 h => ?_))
                                                                                          refine r_icmp_eq F (tgt := 2092) d11_law_1192 (by decide) (fun hb => ?_) (fun hb => ?_)
                                                                                          · replace h := wpo_pos h hb
                                                                                            refine r_iinc F 3 (lv' := [(3, vI (s1.1 + 6)), (0, Value.ref b), (1, vR X 0), (2, vR X 117)]) rfl (Nat.le_of_ble_eq_true rfl) rfl d11_law_2092 ?_
                                                                                            refine r_goto F (tgt := 18) (by decide) d11_law_2095 ?_
                                                                                            refine r_weak [1, 2, 3, 0] rfl ?_
                                                                                            replace h := wpo_inl h
                                                                                            exact h
                                                                                          · replace h := wpo_neg h hb
                                                                                            refine r_iconst F (z := 0) d11_law_1195 ?_
                                                                                            exact (wpo_none h).elim
                                                                                        · replace h := wpo_neg h hb41
                                                                                          by_cases hb42 : w32 (and32 (xs s1.1.toNat) 127) = 42
                                                                                          · replace h := wpo_pos h hb42
                                                                                            refine r_tabIn F 42 hb42 d11_law_33 (by decide) (by decide) rfl (tgt := 1197) (by decide) ?_
                                                                                            refine r_aload_nR F 1 rfl rfl d11_law_1197 ?_
                                                                                            refine r_aload_n F 0 rfl rfl d11_law_1198 ?_
                                                                                            refine r_iload_n F 3 rfl rfl d11_law_1199 ?_
                                                                                            refine r_iconst F (z := 1) d11_law_1200 ?_
                                                                                            refine r_iadd F d11_law_1201 ?_
                                                                                            obtain ⟨hx48, h⟩ := wpo_chk h
                                                                                            refine r_sld F hL hX hbl hxs hx48 d11_law_1202 ?_
                                                                                            replace h := wpo_bind h
                                                                                            refine r_callV0 F lm11_186 mf9_tempts (vc0 (by decide)) rfl (fr := 6) (lo := 136) (As := [vI (xs (s1.1 + 1).toNat)]) (rest := []) ⟨Nat.le_of_ble_eq_true rfl, Nat.le_of_ble_eq_true rfl⟩ rfl (Nat.le_of_ble_eq_true rfl) ⟨Nat.le_of_ble_eq_true rfl, Nat.le_of_ble_eq_true rfl⟩ d11_law_1203 ?_
                                                                                            refine ok9_tempts (by decide)  (kIm h (fun a61 h => ?_))
                                                                                            refine r_aload_nR F 2 rfl rfl d11_law_1206 ?_
                                                                                            refine r_aload_n F 0 rfl rfl d11_law_1207 ?_
                                                                                            refine r_iload_n F 3 rfl rfl d11_law_1208 ?_
                                                                                            refine r_iconst F (z := 1) d11_law_1209 ?_
                                                                                            refine r_iadd F d11_law_1210 ?_
                                                                                            refine r_sld F hL hX hbl hxs hx48 d11_law_1211 ?_
                                                                                            replace h := wpo_bind h
                                                                                            refine r_callV0 F lm11_189 mf10_tempts (vc117 (by decide)) rfl (fr := 6) (lo := 140) (As := [vI (xs (s1.1 + 1).toNat)]) (rest := [vI a61.1]) ⟨Nat.le_of_ble_eq_true rfl, Nat.le_of_ble_eq_true rfl⟩ rfl (Nat.le_of_ble_eq_true rfl) ⟨Nat.le_of_ble_eq_true rfl, Nat.le_of_ble_eq_true rfl⟩ d11_law_1212 ?_
                                                                                            refine ok10_tempts (by decide)  (kIm h (fun a62 h => ?_))
                                                                                            refine r_icmp_eq F (tgt := 2092) d11_law_1215 (by decide) (fun hb => ?_) (fun hb => ?_)
                                                                                            · replace h := wpo_pos h hb
                                                                                              refine r_iinc F 3 (lv' := [(3, vI (s1.1 + 6)), (0, Value.ref b), (1, vR X 0), (2, vR X 117)]) rfl (Nat.le_of_ble_eq_true rfl) rfl d11_law_2092 ?_
                                                                                              refine r_goto F (tgt := 18) (by decide) d11_law_2095 ?_
                                                                                              refine r_weak [1, 2, 3, 0] rfl ?_
                                                                                              replace h := wpo_inl h
                                                                                              exact h
                                                                                            · replace h := wpo_neg h hb
                                                                                              refine r_iconst F (z := 0) d11_law_1218 ?_
                                                                                              exact (wpo_none h).elim
                                                                                          · replace h := wpo_neg h hb42
                                                                                            by_cases hb43 : w32 (and32 (xs s1.1.toNat) 127) = 43
                                                                                            · replace h := wpo_pos h hb43
                                                                                              refine r_tabIn F 43 hb43 d11_law_33 (by decide) (by decide) rfl (tgt := 1220) (by decide) ?_
                                                                                              refine r_aload_nR F 1 rfl rfl d11_law_1220 ?_
                                                                                              replace h := wpo_bind h
                                                                                              refine r_callV0 F lm11_190 mf9_proof (vc0 (by decide)) rfl (fr := 6) (lo := 136) (As := []) (rest := []) ⟨Nat.le_of_ble_eq_true rfl, Nat.le_of_ble_eq_true rfl⟩ rfl (Nat.le_of_ble_eq_true rfl) ⟨Nat.le_of_ble_eq_true rfl, Nat.le_of_ble_eq_true rfl⟩ d11_law_1221 ?_
                                                                                              refine ok9_proof (by decide)  (kIm h (fun a59 h => ?_))
                                                                                              refine r_aload_nR F 2 rfl rfl d11_law_1224 ?_
                                                                                              replace h := wpo_bind h
                                                                                              refine r_callV0 F lm11_193 mf10_proof (vc117 (by decide)) rfl (fr := 6) (lo := 140) (As := []) (rest := [vI a59.1]) ⟨Nat.le_of_ble_eq_true rfl, Nat.le_of_ble_eq_true rfl⟩ rfl (Nat.le_of_ble_eq_true rfl) ⟨Nat.le_of_ble_eq_true rfl, Nat.le_of_ble_eq_true rfl⟩ d11_law_1225 ?_
                                                                                              refine ok10_proof (by decide)  (kIm h (fun a60 h => ?_))
                                                                                              refine r_icmp_eq F (tgt := 2092) d11_law_1228 (by decide) (fun hb => ?_) (fun hb => ?_)
                                                                                              · replace h := wpo_pos h hb
                                                                                                refine r_iinc F 3 (lv' := [(3, vI (s1.1 + 6)), (0, Value.ref b), (1, vR X 0), (2, vR X 117)]) rfl (Nat.le_of_ble_eq_true rfl) rfl d11_law_2092 ?_
                                                                                                refine r_goto F (tgt := 18) (by decide) d11_law_2095 ?_
                                                                                                refine r_weak [1, 2, 3, 0] rfl ?_
                                                                                                replace h := wpo_inl h
                                                                                                exact h
                                                                                              · replace h := wpo_neg h hb
                                                                                                refine r_iconst F (z := 0) d11_law_1231 ?_
                                                                                                exact (wpo_none h).elim
                                                                                            · replace h := wpo_neg h hb43
                                                                                              by_cases hb44 : w32 (and32 (xs s1.1.toNat) 127) = 44
                                                                                              · replace h := wpo_pos h hb44
                                                                                                refine r_tabIn F 44 hb44 d11_law_33 (by decide) (by decide) rfl (tgt := 1233) (by decide) ?_
                                                                                                refine r_aload_nR F 1 rfl rfl d11_law_1233 ?_
                                                                                                replace h := wpo_bind h
                                                                                                refine r_callV0 F lm11_194 mf9_pairs (vc0 (by decide)) rfl (fr := 3) (lo := 70) (As := []) (rest := []) ⟨Nat.le_of_ble_eq_true rfl, Nat.le_of_ble_eq_true rfl⟩ rfl (Nat.le_of_ble_eq_true rfl) ⟨Nat.le_of_ble_eq_true rfl, Nat.le_of_ble_eq_true rfl⟩ d11_law_1234 ?_
                                                                                                refine ok9_pairs (by decide)  (kIm h (fun a57 h => ?_))
                                                                                                refine r_aload_nR F 2 rfl rfl d11_law_1237 ?_
                                                                                                replace h := wpo_bind h
                                                                                                refine r_callV0 F lm11_197 mf10_pairs (vc117 (by decide)) rfl (fr := 3) (lo := 72) (As := []) (rest := [vI a57.1]) ⟨Nat.le_of_ble_eq_true rfl, Nat.le_of_ble_eq_true rfl⟩ rfl (Nat.le_of_ble_eq_true rfl) ⟨Nat.le_of_ble_eq_true rfl, Nat.le_of_ble_eq_true rfl⟩ d11_law_1238 ?_
                                                                                                refine ok10_pairs (by decide)  (kIm h (fun a58 h => ?_))
                                                                                                refine r_icmp_eq F (tgt := 2092) d11_law_1241 (by decide) (fun hb => ?_) (fun hb => ?_)
                                                                                                · replace h := wpo_pos h hb
                                                                                                  refine r_iinc F 3 (lv' := [(3, vI (s1.1 + 6)), (0, Value.ref b), (1, vR X 0), (2, vR X 117)]) rfl (Nat.le_of_ble_eq_true rfl) rfl d11_law_2092 ?_
                                                                                                  refine r_goto F (tgt := 18) (by decide) d11_law_2095 ?_
                                                                                                  refine r_weak [1, 2, 3, 0] rfl ?_
                                                                                                  replace h := wpo_inl h
                                                                                                  exact h
                                                                                                · replace h := wpo_neg h hb
                                                                                                  refine r_iconst F (z := 0) d11_law_1244 ?_
                                                                                                  exact (wpo_none h).elim
                                                                                              · replace h := wpo_neg h hb44
                                                                                                by_cases hb45 : w32 (and32 (xs s1.1.toNat) 127) = 45
                                                                                                · replace h := wpo_pos h hb45
                                                                                                  refine r_tabIn F 45 hb45 d11_law_33 (by decide) (by decide) rfl (tgt := 1246) (by decide) ?_
                                                                                                  refine r_aload_nR F 1 rfl rfl d11_law_1246 ?_
                                                                                                  refine r_aload_n F 0 rfl rfl d11_law_1247 ?_
                                                                                                  refine r_iload_n F 3 rfl rfl d11_law_1248 ?_
                                                                                                  refine r_iconst F (z := 1) d11_law_1249 ?_
                                                                                                  refine r_iadd F d11_law_1250 ?_
                                                                                                  obtain ⟨hx47, h⟩ := wpo_chk h
                                                                                                  refine r_sld F hL hX hbl hxs hx47 d11_law_1251 ?_
                                                                                                  replace h := wpo_bind h
                                                                                                  refine r_callV0 F lm11_198 mf9_bearer (vc0 (by decide)) rfl (fr := 3) (lo := 70) (As := [vI (xs (s1.1 + 1).toNat)]) (rest := []) ⟨Nat.le_of_ble_eq_true rfl, Nat.le_of_ble_eq_true rfl⟩ rfl (Nat.le_of_ble_eq_true rfl) ⟨Nat.le_of_ble_eq_true rfl, Nat.le_of_ble_eq_true rfl⟩ d11_law_1252 ?_
                                                                                                  refine ok9_bearer (by decide)  (kIm h (fun a55 h => ?_))
                                                                                                  refine r_aload_nR F 2 rfl rfl d11_law_1255 ?_
                                                                                                  refine r_aload_n F 0 rfl rfl d11_law_1256 ?_
                                                                                                  refine r_iload_n F 3 rfl rfl d11_law_1257 ?_
                                                                                                  refine r_iconst F (z := 1) d11_law_1258 ?_
                                                                                                  refine r_iadd F d11_law_1259 ?_
                                                                                                  refine r_sld F hL hX hbl hxs hx47 d11_law_1260 ?_
                                                                                                  replace h := wpo_bind h
                                                                                                  refine r_callV0 F lm11_201 mf10_bearer (vc117 (by decide)) rfl (fr := 4) (lo := 96) (As := [vI (xs (s1.1 + 1).toNat)]) (rest := [vI a55.1]) ⟨Nat.le_of_ble_eq_true rfl, Nat.le_of_ble_eq_true rfl⟩ rfl (Nat.le_of_ble_eq_true rfl) ⟨Nat.le_of_ble_eq_true rfl, Nat.le_of_ble_eq_true rfl⟩ d11_law_1261 ?_
                                                                                                  refine ok10_bearer (by decide)  (kIm h (fun a56 h => ?_))
                                                                                                  refine r_icmp_eq F (tgt := 2092) d11_law_1264 (by decide) (fun hb => ?_) (fun hb => ?_)
                                                                                                  · replace h := wpo_pos h hb
                                                                                                    refine r_iinc F 3 (lv' := [(3, vI (s1.1 + 6)), (0, Value.ref b), (1, vR X 0), (2, vR X 117)]) rfl (Nat.le_of_ble_eq_true rfl) rfl d11_law_2092 ?_
                                                                                                    refine r_goto F (tgt := 18) (by decide) d11_law_2095 ?_
                                                                                                    refine r_weak [1, 2, 3, 0] rfl ?_
                                                                                                    replace h := wpo_inl h
                                                                                                    exact h
                                                                                                  · replace h := wpo_neg h hb
                                                                                                    refine r_iconst F (z := 0) d11_law_1267 ?_
                                                                                                    exact (wpo_none h).elim
                                                                                                · replace h := wpo_neg h hb45
                                                                                                  by_cases hb46 : w32 (and32 (xs s1.1.toNat) 127) = 46
                                                                                                  · replace h := wpo_pos h hb46
                                                                                                    refine r_tabIn F 46 hb46 d11_law_33 (by decide) (by decide) rfl (tgt := 1269) (by decide) ?_
                                                                                                    refine r_aload_nR F 1 rfl rfl d11_law_1269 ?_
                                                                                                    refine r_aload_n F 0 rfl rfl d11_law_1270 ?_
                                                                                                    refine r_iload_n F 3 rfl rfl d11_law_1271 ?_
                                                                                                    refine r_iconst F (z := 1) d11_law_1272 ?_
                                                                                                    refine r_iadd F d11_law_1273 ?_
                                                                                                    obtain ⟨hx46, h⟩ := wpo_chk h
                                                                                                    refine r_sld F hL hX hbl hxs hx46 d11_law_1274 ?_
                                                                                                    replace h := wpo_bind h
                                                                                                    refine r_callV0 F lm11_202 mf9_kinder (vc0 (by decide)) rfl (fr := 3) (lo := 72) (As := [vI (xs (s1.1 + 1).toNat)]) (rest := []) ⟨Nat.le_of_ble_eq_true rfl, Nat.le_of_ble_eq_true rfl⟩ rfl (Nat.le_of_ble_eq_true rfl) ⟨Nat.le_of_ble_eq_true rfl, Nat.le_of_ble_eq_true rfl⟩ d11_law_1275 ?_
                                                                                                    refine ok9_kinder (by decide)  (kIm h (fun a53 h => ?_))
                                                                                                    refine r_aload_nR F 2 rfl rfl d11_law_1278 ?_
                                                                                                    refine r_aload_n F 0 rfl rfl d11_law_1279 ?_
                                                                                                    refine r_iload_n F 3 rfl rfl d11_law_1280 ?_
                                                                                                    refine r_iconst F (z := 1) d11_law_1281 ?_
                                                                                                    refine r_iadd F d11_law_1282 ?_
                                                                                                    refine r_sld F hL hX hbl hxs hx46 d11_law_1283 ?_
                                                                                                    replace h := wpo_bind h
                                                                                                    refine r_callV0 F lm11_205 mf10_kinder (vc117 (by decide)) rfl (fr := 3) (lo := 72) (As := [vI (xs (s1.1 + 1).toNat)]) (rest := [vI a53.1]) ⟨Nat.le_of_ble_eq_true rfl, Nat.le_of_ble_eq_true rfl⟩ rfl (Nat.le_of_ble_eq_true rfl) ⟨Nat.le_of_ble_eq_true rfl, Nat.le_of_ble_eq_true rfl⟩ d11_law_1284 ?_
                                                                                                    refine ok10_kinder (by decide)  (kIm h (fun a54 h => ?_))
                                                                                                    refine r_icmp_eq F (tgt := 2092) d11_law_1287 (by decide) (fun hb => ?_) (fun hb => ?_)
                                                                                                    · replace h := wpo_pos h hb
                                                                                                      refine r_iinc F 3 (lv' := [(3, vI (s1.1 + 6)), (0, Value.ref b), (1, vR X 0), (2, vR X 117)]) rfl (Nat.le_of_ble_eq_true rfl) rfl d11_law_2092 ?_
                                                                                                      refine r_goto F (tgt := 18) (by decide) d11_law_2095 ?_
                                                                                                      refine r_weak [1, 2, 3, 0] rfl ?_
                                                                                                      replace h := wpo_inl h
                                                                                                      exact h
                                                                                                    · replace h := wpo_neg h hb
                                                                                                      refine r_iconst F (z := 0) d11_law_1290 ?_
                                                                                                      exact (wpo_none h).elim
                                                                                                  · replace h := wpo_neg h hb46
                                                                                                    by_cases hb47 : w32 (and32 (xs s1.1.toNat) 127) = 47
                                                                                                    · replace h := wpo_pos h hb47
                                                                                                      refine r_tabIn F 47 hb47 d11_law_33 (by decide) (by decide) rfl (tgt := 1292) (by decide) ?_
                                                                                                      refine r_aload_nR F 1 rfl rfl d11_law_1292 ?_
                                                                                                      refine r_aload_n F 0 rfl rfl d11_law_1293 ?_
                                                                                                      refine r_iload_n F 3 rfl rfl d11_law_1294 ?_
                                                                                                      refine r_iconst F (z := 1) d11_law_1295 ?_
                                                                                                      refine r_iadd F d11_law_1296 ?_
                                                                                                      obtain ⟨hx45, h⟩ := wpo_chk h
                                                                                                      refine r_sld F hL hX hbl hxs hx45 d11_law_1297 ?_
                                                                                                      replace h := wpo_bind h
                                                                                                      refine r_callV0 F lm11_206 mf9_whose (vc0 (by decide)) rfl (fr := 5) (lo := 115) (As := [vI (xs (s1.1 + 1).toNat)]) (rest := []) ⟨Nat.le_of_ble_eq_true rfl, Nat.le_of_ble_eq_true rfl⟩ rfl (Nat.le_of_ble_eq_true rfl) ⟨Nat.le_of_ble_eq_true rfl, Nat.le_of_ble_eq_true rfl⟩ d11_law_1298 ?_
                                                                                                      refine ok9_whose (by decide)  (kIm h (fun a51 h => ?_))
                                                                                                      refine r_aload_nR F 2 rfl rfl d11_law_1301 ?_
                                                                                                      refine r_aload_n F 0 rfl rfl d11_law_1302 ?_
                                                                                                      refine r_iload_n F 3 rfl rfl d11_law_1303 ?_
                                                                                                      refine r_iconst F (z := 1) d11_law_1304 ?_
                                                                                                      refine r_iadd F d11_law_1305 ?_
                                                                                                      refine r_sld F hL hX hbl hxs hx45 d11_law_1306 ?_
                                                                                                      replace h := wpo_bind h
                                                                                                      refine r_callV0 F lm11_209 mf10_whose (vc117 (by decide)) rfl (fr := 5) (lo := 118) (As := [vI (xs (s1.1 + 1).toNat)]) (rest := [vI a51.1]) ⟨Nat.le_of_ble_eq_true rfl, Nat.le_of_ble_eq_true rfl⟩ rfl (Nat.le_of_ble_eq_true rfl) ⟨Nat.le_of_ble_eq_true rfl, Nat.le_of_ble_eq_true rfl⟩ d11_law_1307 ?_
                                                                                                      refine ok10_whose (by decide)  (kIm h (fun a52 h => ?_))
                                                                                                      refine r_icmp_eq F (tgt := 2092) d11_law_1310 (by decide) (fun hb => ?_) (fun hb => ?_)
                                                                                                      · replace h := wpo_pos h hb
                                                                                                        refine r_iinc F 3 (lv' := [(3, vI (s1.1 + 6)), (0, Value.ref b), (1, vR X 0), (2, vR X 117)]) rfl (Nat.le_of_ble_eq_true rfl) rfl d11_law_2092 ?_
                                                                                                        refine r_goto F (tgt := 18) (by decide) d11_law_2095 ?_
                                                                                                        refine r_weak [1, 2, 3, 0] rfl ?_
                                                                                                        replace h := wpo_inl h
                                                                                                        exact h
                                                                                                      · replace h := wpo_neg h hb
                                                                                                        refine r_iconst F (z := 0) d11_law_1313 ?_
                                                                                                        exact (wpo_none h).elim
                                                                                                    · replace h := wpo_neg h hb47
                                                                                                      by_cases hb48 : w32 (and32 (xs s1.1.toNat) 127) = 48
                                                                                                      · replace h := wpo_pos h hb48
                                                                                                        refine r_tabIn F 48 hb48 d11_law_33 (by decide) (by decide) rfl (tgt := 1315) (by decide) ?_
                                                                                                        refine r_aload_nR F 1 rfl rfl d11_law_1315 ?_
                                                                                                        refine r_aload_n F 0 rfl rfl d11_law_1316 ?_
                                                                                                        refine r_iload_n F 3 rfl rfl d11_law_1317 ?_
                                                                                                        refine r_iconst F (z := 1) d11_law_1318 ?_
                                                                                                        refine r_iadd F d11_law_1319 ?_
                                                                                                        obtain ⟨hx44, h⟩ := wpo_chk h
                                                                                                        refine r_sld F hL hX hbl hxs hx44 d11_law_1320 ?_
                                                                                                        replace h := wpo_bind h
                                                                                                        refine r_callV0 F lm11_210 mf9_fits (vc0 (by decide)) rfl (fr := 5) (lo := 115) (As := [vI (xs (s1.1 + 1).toNat)]) (rest := []) ⟨Nat.le_of_ble_eq_true rfl, Nat.le_of_ble_eq_true rfl⟩ rfl (Nat.le_of_ble_eq_true rfl) ⟨Nat.le_of_ble_eq_true rfl, Nat.le_of_ble_eq_true rfl⟩ d11_law_1321 ?_
                                                                                                        refine ok9_fits (by decide)  (kIm h (fun a49 h => ?_))
                                                                                                        refine r_aload_nR F 2 rfl rfl d11_law_1324 ?_
                                                                                                        refine r_aload_n F 0 rfl rfl d11_law_1325 ?_
                                                                                                        refine r_iload_n F 3 rfl rfl d11_law_1326 ?_
                                                                                                        refine r_iconst F (z := 1) d11_law_1327 ?_
                                                                                                        refine r_iadd F d11_law_1328 ?_
                                                                                                        refine r_sld F hL hX hbl hxs hx44 d11_law_1329 ?_
                                                                                                        replace h := wpo_bind h
                                                                                                        refine r_callV0 F lm11_213 mf10_fits (vc117 (by decide)) rfl (fr := 5) (lo := 118) (As := [vI (xs (s1.1 + 1).toNat)]) (rest := [vI a49.1]) ⟨Nat.le_of_ble_eq_true rfl, Nat.le_of_ble_eq_true rfl⟩ rfl (Nat.le_of_ble_eq_true rfl) ⟨Nat.le_of_ble_eq_true rfl, Nat.le_of_ble_eq_true rfl⟩ d11_law_1330 ?_
                                                                                                        refine ok10_fits (by decide)  (kIm h (fun a50 h => ?_))
                                                                                                        refine r_icmp_eq F (tgt := 2092) d11_law_1333 (by decide) (fun hb => ?_) (fun hb => ?_)
                                                                                                        · replace h := wpo_pos h hb
                                                                                                          refine r_iinc F 3 (lv' := [(3, vI (s1.1 + 6)), (0, Value.ref b), (1, vR X 0), (2, vR X 117)]) rfl (Nat.le_of_ble_eq_true rfl) rfl d11_law_2092 ?_
                                                                                                          refine r_goto F (tgt := 18) (by decide) d11_law_2095 ?_
                                                                                                          refine r_weak [1, 2, 3, 0] rfl ?_
                                                                                                          replace h := wpo_inl h
                                                                                                          exact h
                                                                                                        · replace h := wpo_neg h hb
                                                                                                          refine r_iconst F (z := 0) d11_law_1336 ?_
                                                                                                          exact (wpo_none h).elim
                                                                                                      · replace h := wpo_neg h hb48
                                                                                                        by_cases hb49 : w32 (and32 (xs s1.1.toNat) 127) = 49
                                                                                                        · replace h := wpo_pos h hb49
                                                                                                          refine r_tabIn F 49 hb49 d11_law_33 (by decide) (by decide) rfl (tgt := 1338) (by decide) ?_
                                                                                                          refine r_aload_nR F 1 rfl rfl d11_law_1338 ?_
                                                                                                          refine r_aload_n F 0 rfl rfl d11_law_1339 ?_
                                                                                                          refine r_iload_n F 3 rfl rfl d11_law_1340 ?_
                                                                                                          refine r_iconst F (z := 1) d11_law_1341 ?_
                                                                                                          refine r_iadd F d11_law_1342 ?_
                                                                                                          obtain ⟨hx43, h⟩ := wpo_chk h
                                                                                                          refine r_sld F hL hX hbl hxs hx43 d11_law_1343 ?_
                                                                                                          replace h := wpo_bind h
                                                                                                          refine r_callV0 F lm11_214 mf9_ask (vc0 (by decide)) rfl (fr := 5) (lo := 115) (As := [vI (xs (s1.1 + 1).toNat)]) (rest := []) ⟨Nat.le_of_ble_eq_true rfl, Nat.le_of_ble_eq_true rfl⟩ rfl (Nat.le_of_ble_eq_true rfl) ⟨Nat.le_of_ble_eq_true rfl, Nat.le_of_ble_eq_true rfl⟩ d11_law_1344 ?_
                                                                                                          refine ok9_ask (by decide)  (kIm h (fun a47 h => ?_))
                                                                                                          refine r_aload_nR F 2 rfl rfl d11_law_1347 ?_
                                                                                                          refine r_aload_n F 0 rfl rfl d11_law_1348 ?_
                                                                                                          refine r_iload_n F 3 rfl rfl d11_law_1349 ?_
                                                                                                          refine r_iconst F (z := 1) d11_law_1350 ?_
                                                                                                          refine r_iadd F d11_law_1351 ?_
                                                                                                          refine r_sld F hL hX hbl hxs hx43 d11_law_1352 ?_
                                                                                                          replace h := wpo_bind h
                                                                                                          refine r_callV0 F lm11_217 mf10_ask (vc117 (by decide)) rfl (fr := 5) (lo := 118) (As := [vI (xs (s1.1 + 1).toNat)]) (rest := [vI a47.1]) ⟨Nat.le_of_ble_eq_true rfl, Nat.le_of_ble_eq_true rfl⟩ rfl (Nat.le_of_ble_eq_true rfl) ⟨Nat.le_of_ble_eq_true rfl, Nat.le_of_ble_eq_true rfl⟩ d11_law_1353 ?_
                                                                                                          refine ok10_ask (by decide)  (kIm h (fun a48 h => ?_))
                                                                                                          refine r_icmp_eq F (tgt := 2092) d11_law_1356 (by decide) (fun hb => ?_) (fun hb => ?_)
                                                                                                          · replace h := wpo_pos h hb
                                                                                                            refine r_iinc F 3 (lv' := [(3, vI (s1.1 + 6)), (0, Value.ref b), (1, vR X 0), (2, vR X 117)]) rfl (Nat.le_of_ble_eq_true rfl) rfl d11_law_2092 ?_
                                                                                                            refine r_goto F (tgt := 18) (by decide) d11_law_2095 ?_
                                                                                                            refine r_weak [1, 2, 3, 0] rfl ?_
                                                                                                            replace h := wpo_inl h
                                                                                                            exact h
                                                                                                          · replace h := wpo_neg h hb
                                                                                                            refine r_iconst F (z := 0) d11_law_1359 ?_
                                                                                                            exact (wpo_none h).elim
                                                                                                        · replace h := wpo_neg h hb49
                                                                                                          by_cases hb50 : w32 (and32 (xs s1.1.toNat) 127) = 50
                                                                                                          · replace h := wpo_pos h hb50
                                                                                                            refine r_tabIn F 50 hb50 d11_law_33 (by decide) (by decide) rfl (tgt := 1361) (by decide) ?_
                                                                                                            refine r_aload_nR F 1 rfl rfl d11_law_1361 ?_
                                                                                                            refine r_aload_n F 0 rfl rfl d11_law_1362 ?_
                                                                                                            refine r_iload_n F 3 rfl rfl d11_law_1363 ?_
                                                                                                            refine r_iconst F (z := 1) d11_law_1364 ?_
                                                                                                            refine r_iadd F d11_law_1365 ?_
                                                                                                            obtain ⟨hx42, h⟩ := wpo_chk h
                                                                                                            refine r_sld F hL hX hbl hxs hx42 d11_law_1366 ?_
                                                                                                            replace h := wpo_bind h
                                                                                                            refine r_callV0 F lm11_218 mf9_leaves (vc0 (by decide)) rfl (fr := 5) (lo := 115) (As := [vI (xs (s1.1 + 1).toNat)]) (rest := []) ⟨Nat.le_of_ble_eq_true rfl, Nat.le_of_ble_eq_true rfl⟩ rfl (Nat.le_of_ble_eq_true rfl) ⟨Nat.le_of_ble_eq_true rfl, Nat.le_of_ble_eq_true rfl⟩ d11_law_1367 ?_
                                                                                                            refine ok9_leaves (by decide)  (kIm h (fun a45 h => ?_))
                                                                                                            refine r_aload_nR F 2 rfl rfl d11_law_1370 ?_
                                                                                                            refine r_aload_n F 0 rfl rfl d11_law_1371 ?_
                                                                                                            refine r_iload_n F 3 rfl rfl d11_law_1372 ?_
                                                                                                            refine r_iconst F (z := 1) d11_law_1373 ?_
                                                                                                            refine r_iadd F d11_law_1374 ?_
                                                                                                            refine r_sld F hL hX hbl hxs hx42 d11_law_1375 ?_
                                                                                                            replace h := wpo_bind h
                                                                                                            refine r_callV0 F lm11_221 mf10_leaves (vc117 (by decide)) rfl (fr := 5) (lo := 118) (As := [vI (xs (s1.1 + 1).toNat)]) (rest := [vI a45.1]) ⟨Nat.le_of_ble_eq_true rfl, Nat.le_of_ble_eq_true rfl⟩ rfl (Nat.le_of_ble_eq_true rfl) ⟨Nat.le_of_ble_eq_true rfl, Nat.le_of_ble_eq_true rfl⟩ d11_law_1376 ?_
                                                                                                            refine ok10_leaves (by decide)  (kIm h (fun a46 h => ?_))
                                                                                                            refine r_icmp_eq F (tgt := 2092) d11_law_1379 (by decide) (fun hb => ?_) (fun hb => ?_)
                                                                                                            · replace h := wpo_pos h hb
                                                                                                              refine r_iinc F 3 (lv' := [(3, vI (s1.1 + 6)), (0, Value.ref b), (1, vR X 0), (2, vR X 117)]) rfl (Nat.le_of_ble_eq_true rfl) rfl d11_law_2092 ?_
                                                                                                              refine r_goto F (tgt := 18) (by decide) d11_law_2095 ?_
                                                                                                              refine r_weak [1, 2, 3, 0] rfl ?_
                                                                                                              replace h := wpo_inl h
                                                                                                              exact h
                                                                                                            · replace h := wpo_neg h hb
                                                                                                              refine r_iconst F (z := 0) d11_law_1382 ?_
                                                                                                              exact (wpo_none h).elim
                                                                                                          · replace h := wpo_neg h hb50
                                                                                                            by_cases hb51 : w32 (and32 (xs s1.1.toNat) 127) = 51
                                                                                                            · replace h := wpo_pos h hb51
                                                                                                              refine r_tabIn F 51 hb51 d11_law_33 (by decide) (by decide) rfl (tgt := 1384) (by decide) ?_
                                                                                                              refine r_aload_nR F 1 rfl rfl d11_law_1384 ?_
                                                                                                              refine r_aload_n F 0 rfl rfl d11_law_1385 ?_
                                                                                                              refine r_iload_n F 3 rfl rfl d11_law_1386 ?_
                                                                                                              refine r_iconst F (z := 1) d11_law_1387 ?_
                                                                                                              refine r_iadd F d11_law_1388 ?_
                                                                                                              obtain ⟨hx41, h⟩ := wpo_chk h
                                                                                                              refine r_sld F hL hX hbl hxs hx41 d11_law_1389 ?_
                                                                                                              replace h := wpo_bind h
                                                                                                              refine r_callV0 F lm11_222 mf9_nights (vc0 (by decide)) rfl (fr := 3) (lo := 70) (As := [vI (xs (s1.1 + 1).toNat)]) (rest := []) ⟨Nat.le_of_ble_eq_true rfl, Nat.le_of_ble_eq_true rfl⟩ rfl (Nat.le_of_ble_eq_true rfl) ⟨Nat.le_of_ble_eq_true rfl, Nat.le_of_ble_eq_true rfl⟩ d11_law_1390 ?_
                                                                                                              refine ok9_nights (by decide)  (kIm h (fun a43 h => ?_))
                                                                                                              refine r_aload_nR F 2 rfl rfl d11_law_1393 ?_
                                                                                                              refine r_aload_n F 0 rfl rfl d11_law_1394 ?_
                                                                                                              refine r_iload_n F 3 rfl rfl d11_law_1395 ?_
                                                                                                              refine r_iconst F (z := 1) d11_law_1396 ?_
                                                                                                              refine r_iadd F d11_law_1397 ?_
                                                                                                              refine r_sld F hL hX hbl hxs hx41 d11_law_1398 ?_
                                                                                                              replace h := wpo_bind h
                                                                                                              refine r_callV0 F lm11_225 mf10_nightsX (vc117 (by decide)) rfl (fr := 5) (lo := 107) (As := [vI (xs (s1.1 + 1).toNat)]) (rest := [vI a43.1]) ⟨Nat.le_of_ble_eq_true rfl, Nat.le_of_ble_eq_true rfl⟩ rfl (Nat.le_of_ble_eq_true rfl) ⟨Nat.le_of_ble_eq_true rfl, Nat.le_of_ble_eq_true rfl⟩ d11_law_1399 ?_
                                                                                                              refine ok10_nightsX (by decide)  (kIm h (fun a44 h => ?_))
                                                                                                              refine r_icmp_eq F (tgt := 2092) d11_law_1402 (by decide) (fun hb => ?_) (fun hb => ?_)
                                                                                                              · replace h := wpo_pos h hb
                                                                                                                refine r_iinc F 3 (lv' := [(3, vI (s1.1 + 6)), (0, Value.ref b), (1, vR X 0), (2, vR X 117)]) rfl (Nat.le_of_ble_eq_true rfl) rfl d11_law_2092 ?_
                                                                                                                refine r_goto F (tgt := 18) (by decide) d11_law_2095 ?_
                                                                                                                refine r_weak [1, 2, 3, 0] rfl ?_
                                                                                                                replace h := wpo_inl h
                                                                                                                exact h
                                                                                                              · replace h := wpo_neg h hb
                                                                                                                refine r_iconst F (z := 0) d11_law_1405 ?_
                                                                                                                exact (wpo_none h).elim
                                                                                                            · replace h := wpo_neg h hb51
                                                                                                              by_cases hb52 : w32 (and32 (xs s1.1.toNat) 127) = 52
                                                                                                              · replace h := wpo_pos h hb52
                                                                                                                refine r_tabIn F 52 hb52 d11_law_33 (by decide) (by decide) rfl (tgt := 1407) (by decide) ?_
                                                                                                                refine r_aload_nR F 1 rfl rfl d11_law_1407 ?_
                                                                                                                refine r_aload_n F 0 rfl rfl d11_law_1408 ?_
                                                                                                                refine r_iload_n F 3 rfl rfl d11_law_1409 ?_
                                                                                                                refine r_iconst F (z := 1) d11_law_1410 ?_
                                                                                                                refine r_iadd F d11_law_1411 ?_
                                                                                                                obtain ⟨hx40, h⟩ := wpo_chk h
                                                                                                                refine r_sld F hL hX hbl hxs hx40 d11_law_1412 ?_
                                                                                                                replace h := wpo_bind h
                                                                                                                refine r_callV0 F lm11_226 mf9_fair (vc0 (by decide)) rfl (fr := 3) (lo := 70) (As := [vI (xs (s1.1 + 1).toNat)]) (rest := []) ⟨Nat.le_of_ble_eq_true rfl, Nat.le_of_ble_eq_true rfl⟩ rfl (Nat.le_of_ble_eq_true rfl) ⟨Nat.le_of_ble_eq_true rfl, Nat.le_of_ble_eq_true rfl⟩ d11_law_1413 ?_
                                                                                                                refine ok9_fair (by decide)  (kIm h (fun a41 h => ?_))
                                                                                                                refine r_aload_nR F 2 rfl rfl d11_law_1416 ?_
                                                                                                                refine r_aload_n F 0 rfl rfl d11_law_1417 ?_
                                                                                                                refine r_iload_n F 3 rfl rfl d11_law_1418 ?_
                                                                                                                refine r_iconst F (z := 1) d11_law_1419 ?_
                                                                                                                refine r_iadd F d11_law_1420 ?_
                                                                                                                refine r_sld F hL hX hbl hxs hx40 d11_law_1421 ?_
                                                                                                                replace h := wpo_bind h
                                                                                                                refine r_callV0 F lm11_229 mf10_fair (vc117 (by decide)) rfl (fr := 6) (lo := 129) (As := [vI (xs (s1.1 + 1).toNat)]) (rest := [vI a41.1]) ⟨Nat.le_of_ble_eq_true rfl, Nat.le_of_ble_eq_true rfl⟩ rfl (Nat.le_of_ble_eq_true rfl) ⟨Nat.le_of_ble_eq_true rfl, Nat.le_of_ble_eq_true rfl⟩ d11_law_1422 ?_
                                                                                                                refine ok10_fair (by decide)  (kIm h (fun a42 h => ?_))
                                                                                                                refine r_icmp_eq F (tgt := 2092) d11_law_1425 (by decide) (fun hb => ?_) (fun hb => ?_)
                                                                                                                · replace h := wpo_pos h hb
                                                                                                                  refine r_iinc F 3 (lv' := [(3, vI (s1.1 + 6)), (0, Value.ref b), (1, vR X 0), (2, vR X 117)]) rfl (Nat.le_of_ble_eq_true rfl) rfl d11_law_2092 ?_
                                                                                                                  refine r_goto F (tgt := 18) (by decide) d11_law_2095 ?_
                                                                                                                  refine r_weak [1, 2, 3, 0] rfl ?_
                                                                                                                  replace h := wpo_inl h
                                                                                                                  exact h
                                                                                                                · replace h := wpo_neg h hb
                                                                                                                  refine r_iconst F (z := 0) d11_law_1428 ?_
                                                                                                                  exact (wpo_none h).elim
                                                                                                              · replace h := wpo_neg h hb52
                                                                                                                by_cases hb53 : w32 (and32 (xs s1.1.toNat) 127) = 53
                                                                                                                · replace h := wpo_pos h hb53
                                                                                                                  refine r_tabIn F 53 hb53 d11_law_33 (by decide) (by decide) rfl (tgt := 1430) (by decide) ?_
                                                                                                                  refine r_aload_nR F 1 rfl rfl d11_law_1430 ?_
                                                                                                                  refine r_aload_n F 0 rfl rfl d11_law_1431 ?_
                                                                                                                  refine r_iload_n F 3 rfl rfl d11_law_1432 ?_
                                                                                                                  refine r_iconst F (z := 1) d11_law_1433 ?_
                                                                                                                  refine r_iadd F d11_law_1434 ?_
                                                                                                                  obtain ⟨hx39, h⟩ := wpo_chk h
                                                                                                                  refine r_sld F hL hX hbl hxs hx39 d11_law_1435 ?_
                                                                                                                  replace h := wpo_bind h
                                                                                                                  refine r_callV0 F lm11_230 mf9_leave (vc0 (by decide)) rfl (fr := 3) (lo := 70) (As := [vI (xs (s1.1 + 1).toNat)]) (rest := []) ⟨Nat.le_of_ble_eq_true rfl, Nat.le_of_ble_eq_true rfl⟩ rfl (Nat.le_of_ble_eq_true rfl) ⟨Nat.le_of_ble_eq_true rfl, Nat.le_of_ble_eq_true rfl⟩ d11_law_1436 ?_
                                                                                                                  refine ok9_leave (by decide)  (kIm h (fun a39 h => ?_))
                                                                                                                  refine r_aload_nR F 2 rfl rfl d11_law_1439 ?_
                                                                                                                  refine r_aload_n F 0 rfl rfl d11_law_1440 ?_
                                                                                                                  refine r_iload_n F 3 rfl rfl d11_law_1441 ?_
                                                                                                                  refine r_iconst F (z := 1) d11_law_1442 ?_
                                                                                                                  refine r_iadd F d11_law_1443 ?_
                                                                                                                  refine r_sld F hL hX hbl hxs hx39 d11_law_1444 ?_
                                                                                                                  replace h := wpo_bind h
                                                                                                                  refine r_callV0 F lm11_233 mf10_leave (vc117 (by decide)) rfl (fr := 6) (lo := 129) (As := [vI (xs (s1.1 + 1).toNat)]) (rest := [vI a39.1]) ⟨Nat.le_of_ble_eq_true rfl, Nat.le_of_ble_eq_true rfl⟩ rfl (Nat.le_of_ble_eq_true rfl) ⟨Nat.le_of_ble_eq_true rfl, Nat.le_of_ble_eq_true rfl⟩ d11_law_1445 ?_
                                                                                                                  refine ok10_leave (by decide)  (kIm h (fun a40 h => ?_))
                                                                                                                  refine r_icmp_eq F (tgt := 2092) d11_law_1448 (by decide) (fun hb => ?_) (fun hb => ?_)
                                                                                                                  · replace h := wpo_pos h hb
                                                                                                                    refine r_iinc F 3 (lv' := [(3, vI (s1.1 + 6)), (0, Value.ref b), (1, vR X 0), (2, vR X 117)]) rfl (Nat.le_of_ble_eq_true rfl) rfl d11_law_2092 ?_
                                                                                                                    refine r_goto F (tgt := 18) (by decide) d11_law_2095 ?_
                                                                                                                    refine r_weak [1, 2, 3, 0] rfl ?_
                                                                                                                    replace h := wpo_inl h
                                                                                                                    exact h
                                                                                                                  · replace h := wpo_neg h hb
                                                                                                                    refine r_iconst F (z := 0) d11_law_1451 ?_
                                                                                                                    exact (wpo_none h).elim
                                                                                                                · replace h := wpo_neg h hb53
                                                                                                                  by_cases hb54 : w32 (and32 (xs s1.1.toNat) 127) = 54
                                                                                                                  · replace h := wpo_pos h hb54
                                                                                                                    refine r_tabIn F 54 hb54 d11_law_33 (by decide) (by decide) rfl (tgt := 1453) (by decide) ?_
                                                                                                                    refine r_aload_nR F 1 rfl rfl d11_law_1453 ?_
                                                                                                                    refine r_aload_n F 0 rfl rfl d11_law_1454 ?_
                                                                                                                    refine r_iload_n F 3 rfl rfl d11_law_1455 ?_
                                                                                                                    refine r_iconst F (z := 1) d11_law_1456 ?_
                                                                                                                    refine r_iadd F d11_law_1457 ?_
                                                                                                                    obtain ⟨hx37, h⟩ := wpo_chk h
                                                                                                                    refine r_sld F hL hX hbl hxs hx37 d11_law_1458 ?_
                                                                                                                    refine r_aload_n F 0 rfl rfl d11_law_1459 ?_
                                                                                                                    refine r_iload_n F 3 rfl rfl d11_law_1460 ?_
                                                                                                                    refine r_iconst F (z := 2) d11_law_1461 ?_
                                                                                                                    refine r_iadd F d11_law_1462 ?_
                                                                                                                    obtain ⟨hx38, h⟩ := wpo_chk h
                                                                                                                    refine r_sld F hL hX hbl hxs hx38 d11_law_1463 ?_
                                                                                                                    replace h := wpo_bind h
                                                                                                                    refine r_callV0 F lm11_234 mf9_rests (vc0 (by decide)) rfl (fr := 5) (lo := 115) (As := [vI (xs (s1.1 + 1).toNat), vI (xs (s1.1 + 2).toNat)]) (rest := []) ⟨Nat.le_of_ble_eq_true rfl, Nat.le_of_ble_eq_true rfl⟩ rfl (Nat.le_of_ble_eq_true rfl) ⟨Nat.le_of_ble_eq_true rfl, Nat.le_of_ble_eq_true rfl⟩ d11_law_1464 ?_
                                                                                                                    refine ok9_rests (by decide)  (kIm h (fun a37 h => ?_))
                                                                                                                    refine r_aload_nR F 2 rfl rfl d11_law_1467 ?_
                                                                                                                    refine r_aload_n F 0 rfl rfl d11_law_1468 ?_
                                                                                                                    refine r_iload_n F 3 rfl rfl d11_law_1469 ?_
                                                                                                                    refine r_iconst F (z := 1) d11_law_1470 ?_
                                                                                                                    refine r_iadd F d11_law_1471 ?_
                                                                                                                    refine r_sld F hL hX hbl hxs hx37 d11_law_1472 ?_
                                                                                                                    refine r_aload_n F 0 rfl rfl d11_law_1473 ?_
                                                                                                                    refine r_iload_n F 3 rfl rfl d11_law_1474 ?_
                                                                                                                    refine r_iconst F (z := 2) d11_law_1475 ?_
                                                                                                                    refine r_iadd F d11_law_1476 ?_
                                                                                                                    refine r_sld F hL hX hbl hxs hx38 d11_law_1477 ?_
                                                                                                                    replace h := wpo_bind h
                                                                                                                    refine r_callV0 F lm11_237 mf10_rests (vc117 (by decide)) rfl (fr := 5) (lo := 116) (As := [vI (xs (s1.1 + 1).toNat), vI (xs (s1.1 + 2).toNat)]) (rest := [vI a37.1]) ⟨Nat.le_of_ble_eq_true rfl, Nat.le_of_ble_eq_true rfl⟩ rfl (Nat.le_of_ble_eq_true rfl) ⟨Nat.le_of_ble_eq_true rfl, Nat.le_of_ble_eq_true rfl⟩ d11_law_1478 ?_
                                                                                                                    refine ok10_rests (by decide)  (kIm h (fun a38 h => ?_))
                                                                                                                    refine r_icmp_eq F (tgt := 2092) d11_law_1481 (by decide) (fun hb => ?_) (fun hb => ?_)
                                                                                                                    · replace h := wpo_pos h hb
                                                                                                                      refine r_iinc F 3 (lv' := [(3, vI (s1.1 + 6)), (0, Value.ref b), (1, vR X 0), (2, vR X 117)]) rfl (Nat.le_of_ble_eq_true rfl) rfl d11_law_2092 ?_
                                                                                                                      refine r_goto F (tgt := 18) (by decide) d11_law_2095 ?_
                                                                                                                      refine r_weak [1, 2, 3, 0] rfl ?_
                                                                                                                      replace h := wpo_inl h
                                                                                                                      exact h
                                                                                                                    · replace h := wpo_neg h hb
                                                                                                                      refine r_iconst F (z := 0) d11_law_1484 ?_
                                                                                                                      exact (wpo_none h).elim
                                                                                                                  · replace h := wpo_neg h hb54
                                                                                                                    by_cases hb55 : w32 (and32 (xs s1.1.toNat) 127) = 55
                                                                                                                    · replace h := wpo_pos h hb55
                                                                                                                      refine r_tabIn F 55 hb55 d11_law_33 (by decide) (by decide) rfl (tgt := 1486) (by decide) ?_
                                                                                                                      refine r_aload_nR F 1 rfl rfl d11_law_1486 ?_
                                                                                                                      refine r_aload_n F 0 rfl rfl d11_law_1487 ?_
                                                                                                                      refine r_iload_n F 3 rfl rfl d11_law_1488 ?_
                                                                                                                      refine r_iconst F (z := 1) d11_law_1489 ?_
                                                                                                                      refine r_iadd F d11_law_1490 ?_
                                                                                                                      obtain ⟨hx35, h⟩ := wpo_chk h
                                                                                                                      refine r_sld F hL hX hbl hxs hx35 d11_law_1491 ?_
                                                                                                                      refine r_aload_n F 0 rfl rfl d11_law_1492 ?_
                                                                                                                      refine r_iload_n F 3 rfl rfl d11_law_1493 ?_
                                                                                                                      refine r_iconst F (z := 2) d11_law_1494 ?_
                                                                                                                      refine r_iadd F d11_law_1495 ?_
                                                                                                                      obtain ⟨hx36, h⟩ := wpo_chk h
                                                                                                                      refine r_sld F hL hX hbl hxs hx36 d11_law_1496 ?_
                                                                                                                      replace h := wpo_bind h
                                                                                                                      refine r_callV0 F lm11_238 mf9_rest (vc0 (by decide)) rfl (fr := 5) (lo := 115) (As := [vI (xs (s1.1 + 1).toNat), vI (xs (s1.1 + 2).toNat)]) (rest := []) ⟨Nat.le_of_ble_eq_true rfl, Nat.le_of_ble_eq_true rfl⟩ rfl (Nat.le_of_ble_eq_true rfl) ⟨Nat.le_of_ble_eq_true rfl, Nat.le_of_ble_eq_true rfl⟩ d11_law_1497 ?_
                                                                                                                      refine ok9_rest (by decide)  (kIm h (fun a35 h => ?_))
                                                                                                                      refine r_aload_nR F 2 rfl rfl d11_law_1500 ?_
                                                                                                                      refine r_aload_n F 0 rfl rfl d11_law_1501 ?_
                                                                                                                      refine r_iload_n F 3 rfl rfl d11_law_1502 ?_
                                                                                                                      refine r_iconst F (z := 1) d11_law_1503 ?_
                                                                                                                      refine r_iadd F d11_law_1504 ?_
                                                                                                                      refine r_sld F hL hX hbl hxs hx35 d11_law_1505 ?_
                                                                                                                      refine r_aload_n F 0 rfl rfl d11_law_1506 ?_
                                                                                                                      refine r_iload_n F 3 rfl rfl d11_law_1507 ?_
                                                                                                                      refine r_iconst F (z := 2) d11_law_1508 ?_
                                                                                                                      refine r_iadd F d11_law_1509 ?_
                                                                                                                      refine r_sld F hL hX hbl hxs hx36 d11_law_1510 ?_
                                                                                                                      replace h := wpo_bind h
                                                                                                                      refine r_callV0 F lm11_241 mf10_rest (vc117 (by decide)) rfl (fr := 5) (lo := 116) (As := [vI (xs (s1.1 + 1).toNat), vI (xs (s1.1 + 2).toNat)]) (rest := [vI a35.1]) ⟨Nat.le_of_ble_eq_true rfl, Nat.le_of_ble_eq_true rfl⟩ rfl (Nat.le_of_ble_eq_true rfl) ⟨Nat.le_of_ble_eq_true rfl, Nat.le_of_ble_eq_true rfl⟩ d11_law_1511 ?_
                                                                                                                      refine ok10_rest (by decide)  (kIm h (fun a36 h => ?_))
                                                                                                                      refine r_icmp_eq F (tgt := 2092) d11_law_1514 (by decide) (fun hb => ?_) (fun hb => ?_)
                                                                                                                      · replace h := wpo_pos h hb
                                                                                                                        refine r_iinc F 3 (lv' := [(3, vI (s1.1 + 6)), (0, Value.ref b), (1, vR X 0), (2, vR X 117)]) rfl (Nat.le_of_ble_eq_true rfl) rfl d11_law_2092 ?_
                                                                                                                        refine r_goto F (tgt := 18) (by decide) d11_law_2095 ?_
                                                                                                                        refine r_weak [1, 2, 3, 0] rfl ?_
                                                                                                                        replace h := wpo_inl h
                                                                                                                        exact h
                                                                                                                      · replace h := wpo_neg h hb
                                                                                                                        refine r_iconst F (z := 0) d11_law_1517 ?_
                                                                                                                        exact (wpo_none h).elim
                                                                                                                    · replace h := wpo_neg h hb55
                                                                                                                      by_cases hb56 : w32 (and32 (xs s1.1.toNat) 127) = 56
                                                                                                                      · replace h := wpo_pos h hb56
                                                                                                                        refine r_tabIn F 56 hb56 d11_law_33 (by decide) (by decide) rfl (tgt := 1519) (by decide) ?_
                                                                                                                        refine r_aload_nR F 1 rfl rfl d11_law_1519 ?_
                                                                                                                        refine r_aload_n F 0 rfl rfl d11_law_1520 ?_
                                                                                                                        refine r_iload_n F 3 rfl rfl d11_law_1521 ?_
                                                                                                                        refine r_iconst F (z := 1) d11_law_1522 ?_
                                                                                                                        refine r_iadd F d11_law_1523 ?_
                                                                                                                        obtain ⟨hx31, h⟩ := wpo_chk h
                                                                                                                        refine r_sld F hL hX hbl hxs hx31 d11_law_1524 ?_
                                                                                                                        refine r_aload_n F 0 rfl rfl d11_law_1525 ?_
                                                                                                                        refine r_iload_n F 3 rfl rfl d11_law_1526 ?_
                                                                                                                        refine r_iconst F (z := 2) d11_law_1527 ?_
                                                                                                                        refine r_iadd F d11_law_1528 ?_
                                                                                                                        obtain ⟨hx32, h⟩ := wpo_chk h
                                                                                                                        refine r_sld F hL hX hbl hxs hx32 d11_law_1529 ?_
                                                                                                                        refine r_aload_n F 0 rfl rfl d11_law_1530 ?_
                                                                                                                        refine r_iload_n F 3 rfl rfl d11_law_1531 ?_
                                                                                                                        refine r_iconst F (z := 3) d11_law_1532 ?_
                                                                                                                        refine r_iadd F d11_law_1533 ?_
                                                                                                                        obtain ⟨hx33, h⟩ := wpo_chk h
                                                                                                                        refine r_sld F hL hX hbl hxs hx33 d11_law_1534 ?_
                                                                                                                        refine r_aload_n F 0 rfl rfl d11_law_1535 ?_
                                                                                                                        refine r_iload_n F 3 rfl rfl d11_law_1536 ?_
                                                                                                                        refine r_iconst F (z := 4) d11_law_1537 ?_
                                                                                                                        refine r_iadd F d11_law_1538 ?_
                                                                                                                        obtain ⟨hx34, h⟩ := wpo_chk h
                                                                                                                        refine r_sld F hL hX hbl hxs hx34 d11_law_1539 ?_
                                                                                                                        replace h := wpo_bind h
                                                                                                                        refine r_callV0 F lm11_242 mf9_holding (vc0 (by decide)) rfl (fr := 4) (lo := 92) (As := [vI (xs (s1.1 + 1).toNat), vI (xs (s1.1 + 2).toNat), vI (xs (s1.1 + 3).toNat), vI (xs (s1.1 + 4).toNat)]) (rest := []) ⟨Nat.le_of_ble_eq_true rfl, Nat.le_of_ble_eq_true rfl⟩ rfl (Nat.le_of_ble_eq_true rfl) ⟨Nat.le_of_ble_eq_true rfl, Nat.le_of_ble_eq_true rfl⟩ d11_law_1540 ?_
                                                                                                                        refine ok9_holding (by decide)  (kIm h (fun a33 h => ?_))
                                                                                                                        refine r_aload_nR F 2 rfl rfl d11_law_1543 ?_
                                                                                                                        refine r_aload_n F 0 rfl rfl d11_law_1544 ?_
                                                                                                                        refine r_iload_n F 3 rfl rfl d11_law_1545 ?_
                                                                                                                        refine r_iconst F (z := 1) d11_law_1546 ?_
                                                                                                                        refine r_iadd F d11_law_1547 ?_
                                                                                                                        refine r_sld F hL hX hbl hxs hx31 d11_law_1548 ?_
                                                                                                                        refine r_aload_n F 0 rfl rfl d11_law_1549 ?_
                                                                                                                        refine r_iload_n F 3 rfl rfl d11_law_1550 ?_
                                                                                                                        refine r_iconst F (z := 2) d11_law_1551 ?_
                                                                                                                        refine r_iadd F d11_law_1552 ?_
                                                                                                                        refine r_sld F hL hX hbl hxs hx32 d11_law_1553 ?_
                                                                                                                        refine r_aload_n F 0 rfl rfl d11_law_1554 ?_
                                                                                                                        refine r_iload_n F 3 rfl rfl d11_law_1555 ?_
                                                                                                                        refine r_iconst F (z := 3) d11_law_1556 ?_
                                                                                                                        refine r_iadd F d11_law_1557 ?_
                                                                                                                        refine r_sld F hL hX hbl hxs hx33 d11_law_1558 ?_
                                                                                                                        refine r_aload_n F 0 rfl rfl d11_law_1559 ?_
                                                                                                                        refine r_iload_n F 3 rfl rfl d11_law_1560 ?_
                                                                                                                        refine r_iconst F (z := 4) d11_law_1561 ?_
                                                                                                                        refine r_iadd F d11_law_1562 ?_
                                                                                                                        refine r_sld F hL hX hbl hxs hx34 d11_law_1563 ?_
                                                                                                                        replace h := wpo_bind h
                                                                                                                        refine r_callV0 F lm11_246 mf10_holding (vc117 (by decide)) rfl (fr := 5) (lo := 116) (As := [vI (xs (s1.1 + 1).toNat), vI (xs (s1.1 + 2).toNat), vI (xs (s1.1 + 3).toNat), vI (xs (s1.1 + 4).toNat)]) (rest := [vI a33.1]) ⟨Nat.le_of_ble_eq_true rfl, Nat.le_of_ble_eq_true rfl⟩ rfl (Nat.le_of_ble_eq_true rfl) ⟨Nat.le_of_ble_eq_true rfl, Nat.le_of_ble_eq_true rfl⟩ d11_law_1564 ?_
                                                                                                                        refine ok10_holding (by decide)  (kIm h (fun a34 h => ?_))
                                                                                                                        refine r_icmp_eq F (tgt := 2092) d11_law_1567 (by decide) (fun hb => ?_) (fun hb => ?_)
                                                                                                                        · replace h := wpo_pos h hb
                                                                                                                          refine r_iinc F 3 (lv' := [(3, vI (s1.1 + 6)), (0, Value.ref b), (1, vR X 0), (2, vR X 117)]) rfl (Nat.le_of_ble_eq_true rfl) rfl d11_law_2092 ?_
                                                                                                                          refine r_goto F (tgt := 18) (by decide) d11_law_2095 ?_
                                                                                                                          refine r_weak [1, 2, 3, 0] rfl ?_
                                                                                                                          replace h := wpo_inl h
                                                                                                                          exact h
                                                                                                                        · replace h := wpo_neg h hb
                                                                                                                          refine r_iconst F (z := 0) d11_law_1570 ?_
                                                                                                                          exact (wpo_none h).elim
                                                                                                                      · replace h := wpo_neg h hb56
                                                                                                                        by_cases hb57 : w32 (and32 (xs s1.1.toNat) 127) = 57
                                                                                                                        · replace h := wpo_pos h hb57
                                                                                                                          refine r_tabIn F 57 hb57 d11_law_33 (by decide) (by decide) rfl (tgt := 1572) (by decide) ?_
                                                                                                                          refine r_aload_nR F 1 rfl rfl d11_law_1572 ?_
                                                                                                                          refine r_aload_n F 0 rfl rfl d11_law_1573 ?_
                                                                                                                          refine r_iload_n F 3 rfl rfl d11_law_1574 ?_
                                                                                                                          refine r_iconst F (z := 1) d11_law_1575 ?_
                                                                                                                          refine r_iadd F d11_law_1576 ?_
                                                                                                                          obtain ⟨hx29, h⟩ := wpo_chk h
                                                                                                                          refine r_sld F hL hX hbl hxs hx29 d11_law_1577 ?_
                                                                                                                          refine r_aload_n F 0 rfl rfl d11_law_1578 ?_
                                                                                                                          refine r_iload_n F 3 rfl rfl d11_law_1579 ?_
                                                                                                                          refine r_iconst F (z := 2) d11_law_1580 ?_
                                                                                                                          refine r_iadd F d11_law_1581 ?_
                                                                                                                          obtain ⟨hx30, h⟩ := wpo_chk h
                                                                                                                          refine r_sld F hL hX hbl hxs hx30 d11_law_1582 ?_
                                                                                                                          replace h := wpo_bind h
                                                                                                                          refine r_callV0 F lm11_247 mf9_born (vc0 (by decide)) rfl (fr := 2) (lo := 54) (As := [vI (xs (s1.1 + 1).toNat), vI (xs (s1.1 + 2).toNat)]) (rest := []) ⟨Nat.le_of_ble_eq_true rfl, Nat.le_of_ble_eq_true rfl⟩ rfl (Nat.le_of_ble_eq_true rfl) ⟨Nat.le_of_ble_eq_true rfl, Nat.le_of_ble_eq_true rfl⟩ d11_law_1583 ?_
                                                                                                                          refine ok9_born (by decide)  (kL h (fun a31 h => ?_))
                                                                                                                          refine r_aload_nR F 2 rfl rfl d11_law_1586 ?_
                                                                                                                          refine r_aload_n F 0 rfl rfl d11_law_1587 ?_
                                                                                                                          refine r_iload_n F 3 rfl rfl d11_law_1588 ?_
                                                                                                                          refine r_iconst F (z := 1) d11_law_1589 ?_
                                                                                                                          refine r_iadd F d11_law_1590 ?_
                                                                                                                          refine r_sld F hL hX hbl hxs hx29 d11_law_1591 ?_
                                                                                                                          refine r_aload_n F 0 rfl rfl d11_law_1592 ?_
                                                                                                                          refine r_iload_n F 3 rfl rfl d11_law_1593 ?_
                                                                                                                          refine r_iconst F (z := 2) d11_law_1594 ?_
                                                                                                                          refine r_iadd F d11_law_1595 ?_
                                                                                                                          refine r_sld F hL hX hbl hxs hx30 d11_law_1596 ?_
                                                                                                                          replace h := wpo_bind h
                                                                                                                          refine r_callV0 F lm11_251 mf10_born (vc117 (by decide)) rfl (fr := 2) (lo := 53) (As := [vI (xs (s1.1 + 1).toNat), vI (xs (s1.1 + 2).toNat)]) (rest := [vL a31]) ⟨Nat.le_of_ble_eq_true rfl, Nat.le_of_ble_eq_true rfl⟩ rfl (Nat.le_of_ble_eq_true rfl) ⟨Nat.le_of_ble_eq_true rfl, Nat.le_of_ble_eq_true rfl⟩ d11_law_1597 ?_
                                                                                                                          refine ok10_born (by decide)  (kL h (fun a32 h => ?_))
                                                                                                                          refine r_lc_eq F (tgt := 2092) d11_law_1600 d11_law_1601 (by decide) (fun hb => ?_) (fun hb => ?_)
                                                                                                                          · replace h := wpo_pos h hb
                                                                                                                            refine r_iinc F 3 (lv' := [(3, vI (s1.1 + 6)), (0, Value.ref b), (1, vR X 0), (2, vR X 117)]) rfl (Nat.le_of_ble_eq_true rfl) rfl d11_law_2092 ?_
                                                                                                                            refine r_goto F (tgt := 18) (by decide) d11_law_2095 ?_
                                                                                                                            refine r_weak [1, 2, 3, 0] rfl ?_
                                                                                                                            replace h := wpo_inl h
                                                                                                                            exact h
                                                                                                                          · replace h := wpo_neg h hb
                                                                                                                            refine r_iconst F (z := 0) d11_law_1604 ?_
                                                                                                                            exact (wpo_none h).elim
                                                                                                                        · replace h := wpo_neg h hb57
                                                                                                                          by_cases hb58 : w32 (and32 (xs s1.1.toNat) 127) = 58
                                                                                                                          · replace h := wpo_pos h hb58
                                                                                                                            refine r_tabIn F 58 hb58 d11_law_33 (by decide) (by decide) rfl (tgt := 1606) (by decide) ?_
                                                                                                                            refine r_aload_nR F 1 rfl rfl d11_law_1606 ?_
                                                                                                                            refine r_aload_n F 0 rfl rfl d11_law_1607 ?_
                                                                                                                            refine r_iload_n F 3 rfl rfl d11_law_1608 ?_
                                                                                                                            refine r_iconst F (z := 1) d11_law_1609 ?_
                                                                                                                            refine r_iadd F d11_law_1610 ?_
                                                                                                                            obtain ⟨hx28, h⟩ := wpo_chk h
                                                                                                                            refine r_sld F hL hX hbl hxs hx28 d11_law_1611 ?_
                                                                                                                            replace h := wpo_bind h
                                                                                                                            refine r_callV0 F lm11_252 mf9_mean (vc0 (by decide)) rfl (fr := 4) (lo := 89) (As := [vI (xs (s1.1 + 1).toNat)]) (rest := []) ⟨Nat.le_of_ble_eq_true rfl, Nat.le_of_ble_eq_true rfl⟩ rfl (Nat.le_of_ble_eq_true rfl) ⟨Nat.le_of_ble_eq_true rfl, Nat.le_of_ble_eq_true rfl⟩ d11_law_1612 ?_
                                                                                                                            refine ok9_mean (by decide)  (kLm h (fun a29 h => ?_))
                                                                                                                            refine r_aload_nR F 2 rfl rfl d11_law_1615 ?_
                                                                                                                            refine r_aload_n F 0 rfl rfl d11_law_1616 ?_
                                                                                                                            refine r_iload_n F 3 rfl rfl d11_law_1617 ?_
                                                                                                                            refine r_iconst F (z := 1) d11_law_1618 ?_
                                                                                                                            refine r_iadd F d11_law_1619 ?_
                                                                                                                            refine r_sld F hL hX hbl hxs hx28 d11_law_1620 ?_
                                                                                                                            replace h := wpo_bind h
                                                                                                                            refine r_callV0 F lm11_256 mf10_mean (vc117 (by decide)) rfl (fr := 6) (lo := 130) (As := [vI (xs (s1.1 + 1).toNat)]) (rest := [vL a29.1]) ⟨Nat.le_of_ble_eq_true rfl, Nat.le_of_ble_eq_true rfl⟩ rfl (Nat.le_of_ble_eq_true rfl) ⟨Nat.le_of_ble_eq_true rfl, Nat.le_of_ble_eq_true rfl⟩ d11_law_1621 ?_
                                                                                                                            refine ok10_mean (by decide)  (kLm h (fun a30 h => ?_))
                                                                                                                            refine r_lc_eq F (tgt := 2092) d11_law_1624 d11_law_1625 (by decide) (fun hb => ?_) (fun hb => ?_)
                                                                                                                            · replace h := wpo_pos h hb
                                                                                                                              refine r_iinc F 3 (lv' := [(3, vI (s1.1 + 6)), (0, Value.ref b), (1, vR X 0), (2, vR X 117)]) rfl (Nat.le_of_ble_eq_true rfl) rfl d11_law_2092 ?_
                                                                                                                              refine r_goto F (tgt := 18) (by decide) d11_law_2095 ?_
                                                                                                                              refine r_weak [1, 2, 3, 0] rfl ?_
                                                                                                                              replace h := wpo_inl h
                                                                                                                              exact h
                                                                                                                            · replace h := wpo_neg h hb
                                                                                                                              refine r_iconst F (z := 0) d11_law_1628 ?_
                                                                                                                              exact (wpo_none h).elim
                                                                                                                          · replace h := wpo_neg h hb58
                                                                                                                            by_cases hb59 : w32 (and32 (xs s1.1.toNat) 127) = 59
                                                                                                                            · replace h := wpo_pos h hb59
                                                                                                                              refine r_tabIn F 59 hb59 d11_law_33 (by decide) (by decide) rfl (tgt := 1630) (by decide) ?_
                                                                                                                              refine r_aload_nR F 1 rfl rfl d11_law_1630 ?_
                                                                                                                              refine r_aload_n F 0 rfl rfl d11_law_1631 ?_
                                                                                                                              refine r_iload_n F 3 rfl rfl d11_law_1632 ?_
                                                                                                                              refine r_iconst F (z := 1) d11_law_1633 ?_
                                                                                                                              refine r_iadd F d11_law_1634 ?_
                                                                                                                              obtain ⟨hx27, h⟩ := wpo_chk h
                                                                                                                              refine r_sld F hL hX hbl hxs hx27 d11_law_1635 ?_
                                                                                                                              replace h := wpo_bind h
                                                                                                                              refine r_callV0 F lm11_257 mf9_late (vc0 (by decide)) rfl (fr := 4) (lo := 89) (As := [vI (xs (s1.1 + 1).toNat)]) (rest := []) ⟨Nat.le_of_ble_eq_true rfl, Nat.le_of_ble_eq_true rfl⟩ rfl (Nat.le_of_ble_eq_true rfl) ⟨Nat.le_of_ble_eq_true rfl, Nat.le_of_ble_eq_true rfl⟩ d11_law_1636 ?_
                                                                                                                              refine ok9_late (by decide)  (kIm h (fun a27 h => ?_))
                                                                                                                              refine r_aload_nR F 2 rfl rfl d11_law_1639 ?_
                                                                                                                              refine r_aload_n F 0 rfl rfl d11_law_1640 ?_
                                                                                                                              refine r_iload_n F 3 rfl rfl d11_law_1641 ?_
                                                                                                                              refine r_iconst F (z := 1) d11_law_1642 ?_
                                                                                                                              refine r_iadd F d11_law_1643 ?_
                                                                                                                              refine r_sld F hL hX hbl hxs hx27 d11_law_1644 ?_
                                                                                                                              replace h := wpo_bind h
                                                                                                                              refine r_callV0 F lm11_260 mf10_late (vc117 (by decide)) rfl (fr := 6) (lo := 130) (As := [vI (xs (s1.1 + 1).toNat)]) (rest := [vI a27.1]) ⟨Nat.le_of_ble_eq_true rfl, Nat.le_of_ble_eq_true rfl⟩ rfl (Nat.le_of_ble_eq_true rfl) ⟨Nat.le_of_ble_eq_true rfl, Nat.le_of_ble_eq_true rfl⟩ d11_law_1645 ?_
                                                                                                                              refine ok10_late (by decide)  (kIm h (fun a28 h => ?_))
                                                                                                                              refine r_icmp_eq F (tgt := 2092) d11_law_1648 (by decide) (fun hb => ?_) (fun hb => ?_)
                                                                                                                              · replace h := wpo_pos h hb
                                                                                                                                refine r_iinc F 3 (lv' := [(3, vI (s1.1 + 6)), (0, Value.ref b), (1, vR X 0), (2, vR X 117)]) rfl (Nat.le_of_ble_eq_true rfl) rfl d11_law_2092 ?_
                                                                                                                                refine r_goto F (tgt := 18) (by decide) d11_law_2095 ?_
                                                                                                                                refine r_weak [1, 2, 3, 0] rfl ?_
                                                                                                                                replace h := wpo_inl h
                                                                                                                                exact h
                                                                                                                              · replace h := wpo_neg h hb
                                                                                                                                refine r_iconst F (z := 0) d11_law_1651 ?_
                                                                                                                                exact (wpo_none h).elim
                                                                                                                            · replace h := wpo_neg h hb59
                                                                                                                              by_cases hb60 : w32 (and32 (xs s1.1.toNat) 127) = 60
                                                                                                                              · replace h := wpo_pos h hb60
                                                                                                                                refine r_tabIn F 60 hb60 d11_law_33 (by decide) (by decide) rfl (tgt := 1653) (by decide) ?_
                                                                                                                                refine r_aload_nR F 1 rfl rfl d11_law_1653 ?_
                                                                                                                                refine r_aload_n F 0 rfl rfl d11_law_1654 ?_
                                                                                                                                refine r_iload_n F 3 rfl rfl d11_law_1655 ?_
                                                                                                                                refine r_iconst F (z := 1) d11_law_1656 ?_
                                                                                                                                refine r_iadd F d11_law_1657 ?_
                                                                                                                                obtain ⟨hx25, h⟩ := wpo_chk h
                                                                                                                                refine r_sld F hL hX hbl hxs hx25 d11_law_1658 ?_
                                                                                                                                refine r_aload_n F 0 rfl rfl d11_law_1659 ?_
                                                                                                                                refine r_iload_n F 3 rfl rfl d11_law_1660 ?_
                                                                                                                                refine r_iconst F (z := 2) d11_law_1661 ?_
                                                                                                                                refine r_iadd F d11_law_1662 ?_
                                                                                                                                obtain ⟨hx26, h⟩ := wpo_chk h
                                                                                                                                refine r_sld F hL hX hbl hxs hx26 d11_law_1663 ?_
                                                                                                                                replace h := wpo_bind h
                                                                                                                                refine r_callV0 F lm11_261 mf9_ache (vc0 (by decide)) rfl (fr := 5) (lo := 112) (As := [vI (xs (s1.1 + 1).toNat), vI (xs (s1.1 + 2).toNat)]) (rest := []) ⟨Nat.le_of_ble_eq_true rfl, Nat.le_of_ble_eq_true rfl⟩ rfl (Nat.le_of_ble_eq_true rfl) ⟨Nat.le_of_ble_eq_true rfl, Nat.le_of_ble_eq_true rfl⟩ d11_law_1664 ?_
                                                                                                                                refine ok9_ache (by decide)  (kIm h (fun a25 h => ?_))
                                                                                                                                refine r_aload_nR F 2 rfl rfl d11_law_1667 ?_
                                                                                                                                refine r_aload_n F 0 rfl rfl d11_law_1668 ?_
                                                                                                                                refine r_iload_n F 3 rfl rfl d11_law_1669 ?_
                                                                                                                                refine r_iconst F (z := 1) d11_law_1670 ?_
                                                                                                                                refine r_iadd F d11_law_1671 ?_
                                                                                                                                refine r_sld F hL hX hbl hxs hx25 d11_law_1672 ?_
                                                                                                                                refine r_aload_n F 0 rfl rfl d11_law_1673 ?_
                                                                                                                                refine r_iload_n F 3 rfl rfl d11_law_1674 ?_
                                                                                                                                refine r_iconst F (z := 2) d11_law_1675 ?_
                                                                                                                                refine r_iadd F d11_law_1676 ?_
                                                                                                                                refine r_sld F hL hX hbl hxs hx26 d11_law_1677 ?_
                                                                                                                                replace h := wpo_bind h
                                                                                                                                refine r_callV0 F lm11_264 mf10_ache (vc117 (by decide)) rfl (fr := 2) (lo := 46) (As := [vI (xs (s1.1 + 1).toNat), vI (xs (s1.1 + 2).toNat)]) (rest := [vI a25.1]) ⟨Nat.le_of_ble_eq_true rfl, Nat.le_of_ble_eq_true rfl⟩ rfl (Nat.le_of_ble_eq_true rfl) ⟨Nat.le_of_ble_eq_true rfl, Nat.le_of_ble_eq_true rfl⟩ d11_law_1678 ?_
                                                                                                                                refine ok10_ache (by decide)  (kIm h (fun a26 h => ?_))
                                                                                                                                refine r_icmp_eq F (tgt := 2092) d11_law_1681 (by decide) (fun hb => ?_) (fun hb => ?_)
                                                                                                                                · replace h := wpo_pos h hb
                                                                                                                                  refine r_iinc F 3 (lv' := [(3, vI (s1.1 + 6)), (0, Value.ref b), (1, vR X 0), (2, vR X 117)]) rfl (Nat.le_of_ble_eq_true rfl) rfl d11_law_2092 ?_
                                                                                                                                  refine r_goto F (tgt := 18) (by decide) d11_law_2095 ?_
                                                                                                                                  refine r_weak [1, 2, 3, 0] rfl ?_
                                                                                                                                  replace h := wpo_inl h
                                                                                                                                  exact h
                                                                                                                                · replace h := wpo_neg h hb
                                                                                                                                  refine r_iconst F (z := 0) d11_law_1684 ?_
                                                                                                                                  exact (wpo_none h).elim
                                                                                                                              · replace h := wpo_neg h hb60
                                                                                                                                by_cases hb61 : w32 (and32 (xs s1.1.toNat) 127) = 61
                                                                                                                                · replace h := wpo_pos h hb61
                                                                                                                                  refine r_tabIn F 61 hb61 d11_law_33 (by decide) (by decide) rfl (tgt := 1686) (by decide) ?_
                                                                                                                                  refine r_aload_nR F 1 rfl rfl d11_law_1686 ?_
                                                                                                                                  refine r_aload_n F 0 rfl rfl d11_law_1687 ?_
                                                                                                                                  refine r_iload_n F 3 rfl rfl d11_law_1688 ?_
                                                                                                                                  refine r_iconst F (z := 1) d11_law_1689 ?_
                                                                                                                                  refine r_iadd F d11_law_1690 ?_
                                                                                                                                  obtain ⟨hx23, h⟩ := wpo_chk h
                                                                                                                                  refine r_sld F hL hX hbl hxs hx23 d11_law_1691 ?_
                                                                                                                                  refine r_aload_n F 0 rfl rfl d11_law_1692 ?_
                                                                                                                                  refine r_iload_n F 3 rfl rfl d11_law_1693 ?_
                                                                                                                                  refine r_iconst F (z := 2) d11_law_1694 ?_
                                                                                                                                  refine r_iadd F d11_law_1695 ?_
                                                                                                                                  obtain ⟨hx24, h⟩ := wpo_chk h
                                                                                                                                  refine r_sld F hL hX hbl hxs hx24 d11_law_1696 ?_
                                                                                                                                  replace h := wpo_bind h
                                                                                                                                  refine r_callV0 F lm11_265 mf9_comes (vc0 (by decide)) rfl (fr := 5) (lo := 112) (As := [vI (xs (s1.1 + 1).toNat), vI (xs (s1.1 + 2).toNat)]) (rest := []) ⟨Nat.le_of_ble_eq_true rfl, Nat.le_of_ble_eq_true rfl⟩ rfl (Nat.le_of_ble_eq_true rfl) ⟨Nat.le_of_ble_eq_true rfl, Nat.le_of_ble_eq_true rfl⟩ d11_law_1697 ?_
                                                                                                                                  refine ok9_comes (by decide)  (kIm h (fun a23 h => ?_))
                                                                                                                                  refine r_aload_nR F 2 rfl rfl d11_law_1700 ?_
                                                                                                                                  refine r_aload_n F 0 rfl rfl d11_law_1701 ?_
                                                                                                                                  refine r_iload_n F 3 rfl rfl d11_law_1702 ?_
                                                                                                                                  refine r_iconst F (z := 1) d11_law_1703 ?_
                                                                                                                                  refine r_iadd F d11_law_1704 ?_
                                                                                                                                  refine r_sld F hL hX hbl hxs hx23 d11_law_1705 ?_
                                                                                                                                  refine r_aload_n F 0 rfl rfl d11_law_1706 ?_
                                                                                                                                  refine r_iload_n F 3 rfl rfl d11_law_1707 ?_
                                                                                                                                  refine r_iconst F (z := 2) d11_law_1708 ?_
                                                                                                                                  refine r_iadd F d11_law_1709 ?_
                                                                                                                                  refine r_sld F hL hX hbl hxs hx24 d11_law_1710 ?_
                                                                                                                                  replace h := wpo_bind h
                                                                                                                                  refine r_callV0 F lm11_268 mf10_comes (vc117 (by decide)) rfl (fr := 2) (lo := 46) (As := [vI (xs (s1.1 + 1).toNat), vI (xs (s1.1 + 2).toNat)]) (rest := [vI a23.1]) ⟨Nat.le_of_ble_eq_true rfl, Nat.le_of_ble_eq_true rfl⟩ rfl (Nat.le_of_ble_eq_true rfl) ⟨Nat.le_of_ble_eq_true rfl, Nat.le_of_ble_eq_true rfl⟩ d11_law_1711 ?_
                                                                                                                                  refine ok10_comes (by decide)  (kIm h (fun a24 h => ?_))
                                                                                                                                  refine r_icmp_eq F (tgt := 2092) d11_law_1714 (by decide) (fun hb => ?_) (fun hb => ?_)
                                                                                                                                  · replace h := wpo_pos h hb
                                                                                                                                    refine r_iinc F 3 (lv' := [(3, vI (s1.1 + 6)), (0, Value.ref b), (1, vR X 0), (2, vR X 117)]) rfl (Nat.le_of_ble_eq_true rfl) rfl d11_law_2092 ?_
                                                                                                                                    refine r_goto F (tgt := 18) (by decide) d11_law_2095 ?_
                                                                                                                                    refine r_weak [1, 2, 3, 0] rfl ?_
                                                                                                                                    replace h := wpo_inl h
                                                                                                                                    exact h
                                                                                                                                  · replace h := wpo_neg h hb
                                                                                                                                    refine r_iconst F (z := 0) d11_law_1717 ?_
                                                                                                                                    exact (wpo_none h).elim
                                                                                                                                · replace h := wpo_neg h hb61
                                                                                                                                  by_cases hb62 : w32 (and32 (xs s1.1.toNat) 127) = 62
                                                                                                                                  · replace h := wpo_pos h hb62
                                                                                                                                    refine r_tabIn F 62 hb62 d11_law_33 (by decide) (by decide) rfl (tgt := 1719) (by decide) ?_
                                                                                                                                    refine r_aload_nR F 1 rfl rfl d11_law_1719 ?_
                                                                                                                                    replace h := wpo_bind h
                                                                                                                                    refine r_callV0 F lm11_269 mf9_undo (vc0 (by decide)) rfl (fr := 4) (lo := 88) (As := []) (rest := []) ⟨Nat.le_of_ble_eq_true rfl, Nat.le_of_ble_eq_true rfl⟩ rfl (Nat.le_of_ble_eq_true rfl) ⟨Nat.le_of_ble_eq_true rfl, Nat.le_of_ble_eq_true rfl⟩ d11_law_1720 ?_
                                                                                                                                    refine ok9_undo (by decide)  (kIm h (fun a21 h => ?_))
                                                                                                                                    refine r_aload_nR F 2 rfl rfl d11_law_1723 ?_
                                                                                                                                    replace h := wpo_bind h
                                                                                                                                    refine r_callV0 F lm11_272 mf10_undo (vc117 (by decide)) rfl (fr := 1) (lo := 20) (As := []) (rest := [vI a21.1]) ⟨Nat.le_of_ble_eq_true rfl, Nat.le_of_ble_eq_true rfl⟩ rfl (Nat.le_of_ble_eq_true rfl) ⟨Nat.le_of_ble_eq_true rfl, Nat.le_of_ble_eq_true rfl⟩ d11_law_1724 ?_
                                                                                                                                    refine ok10_undo (by decide)  (kIm h (fun a22 h => ?_))
                                                                                                                                    refine r_icmp_eq F (tgt := 2092) d11_law_1727 (by decide) (fun hb => ?_) (fun hb => ?_)
                                                                                                                                    · replace h := wpo_pos h hb
                                                                                                                                      refine r_iinc F 3 (lv' := [(3, vI (s1.1 + 6)), (0, Value.ref b), (1, vR X 0), (2, vR X 117)]) rfl (Nat.le_of_ble_eq_true rfl) rfl d11_law_2092 ?_
                                                                                                                                      refine r_goto F (tgt := 18) (by decide) d11_law_2095 ?_
                                                                                                                                      refine r_weak [1, 2, 3, 0] rfl ?_
                                                                                                                                      replace h := wpo_inl h
                                                                                                                                      exact h
                                                                                                                                    · replace h := wpo_neg h hb
                                                                                                                                      refine r_iconst F (z := 0) d11_law_1730 ?_
                                                                                                                                      exact (wpo_none h).elim
                                                                                                                                  · replace h := wpo_neg h hb62
                                                                                                                                    by_cases hb63 : w32 (and32 (xs s1.1.toNat) 127) = 63
                                                                                                                                    · replace h := wpo_pos h hb63
                                                                                                                                      refine r_tabIn F 63 hb63 d11_law_33 (by decide) (by decide) rfl (tgt := 1732) (by decide) ?_
                                                                                                                                      refine r_aload_nR F 1 rfl rfl d11_law_1732 ?_
                                                                                                                                      replace h := wpo_bind h
                                                                                                                                      refine r_callV0 F lm11_273 mf9_anew (vc0 (by decide)) rfl (fr := 4) (lo := 88) (As := []) (rest := []) ⟨Nat.le_of_ble_eq_true rfl, Nat.le_of_ble_eq_true rfl⟩ rfl (Nat.le_of_ble_eq_true rfl) ⟨Nat.le_of_ble_eq_true rfl, Nat.le_of_ble_eq_true rfl⟩ d11_law_1733 ?_
                                                                                                                                      refine ok9_anew (by decide)  (kIm h (fun a19 h => ?_))
                                                                                                                                      refine r_aload_nR F 2 rfl rfl d11_law_1736 ?_
                                                                                                                                      replace h := wpo_bind h
                                                                                                                                      refine r_callV0 F lm11_276 mf10_anew (vc117 (by decide)) rfl (fr := 1) (lo := 20) (As := []) (rest := [vI a19.1]) ⟨Nat.le_of_ble_eq_true rfl, Nat.le_of_ble_eq_true rfl⟩ rfl (Nat.le_of_ble_eq_true rfl) ⟨Nat.le_of_ble_eq_true rfl, Nat.le_of_ble_eq_true rfl⟩ d11_law_1737 ?_
                                                                                                                                      refine ok10_anew (by decide)  (kIm h (fun a20 h => ?_))
                                                                                                                                      refine r_icmp_eq F (tgt := 2092) d11_law_1740 (by decide) (fun hb => ?_) (fun hb => ?_)
                                                                                                                                      · replace h := wpo_pos h hb
                                                                                                                                        refine r_iinc F 3 (lv' := [(3, vI (s1.1 + 6)), (0, Value.ref b), (1, vR X 0), (2, vR X 117)]) rfl (Nat.le_of_ble_eq_true rfl) rfl d11_law_2092 ?_
                                                                                                                                        refine r_goto F (tgt := 18) (by decide) d11_law_2095 ?_
                                                                                                                                        refine r_weak [1, 2, 3, 0] rfl ?_
                                                                                                                                        replace h := wpo_inl h
                                                                                                                                        exact h
                                                                                                                                      · replace h := wpo_neg h hb
                                                                                                                                        refine r_iconst F (z := 0) d11_law_1743 ?_
                                                                                                                                        exact (wpo_none h).elim
                                                                                                                                    · replace h := wpo_neg h hb63
                                                                                                                                      by_cases hb64 : w32 (and32 (xs s1.1.toNat) 127) = 64
                                                                                                                                      · replace h := wpo_pos h hb64
                                                                                                                                        refine r_tabIn F 64 hb64 d11_law_33 (by decide) (by decide) rfl (tgt := 1745) (by decide) ?_
                                                                                                                                        refine r_aload_nR F 1 rfl rfl d11_law_1745 ?_
                                                                                                                                        refine r_aload_n F 0 rfl rfl d11_law_1746 ?_
                                                                                                                                        refine r_iload_n F 3 rfl rfl d11_law_1747 ?_
                                                                                                                                        refine r_iconst F (z := 1) d11_law_1748 ?_
                                                                                                                                        refine r_iadd F d11_law_1749 ?_
                                                                                                                                        obtain ⟨hx21, h⟩ := wpo_chk h
                                                                                                                                        refine r_sld F hL hX hbl hxs hx21 d11_law_1750 ?_
                                                                                                                                        refine r_aload_n F 0 rfl rfl d11_law_1751 ?_
                                                                                                                                        refine r_iload_n F 3 rfl rfl d11_law_1752 ?_
                                                                                                                                        refine r_iconst F (z := 2) d11_law_1753 ?_
                                                                                                                                        refine r_iadd F d11_law_1754 ?_
                                                                                                                                        obtain ⟨hx22, h⟩ := wpo_chk h
                                                                                                                                        refine r_sld F hL hX hbl hxs hx22 d11_law_1755 ?_
                                                                                                                                        replace h := wpo_bind h
                                                                                                                                        refine r_callV0 F lm11_277 mf9_drawn (vc0 (by decide)) rfl (fr := 4) (lo := 89) (As := [vI (xs (s1.1 + 1).toNat), vI (xs (s1.1 + 2).toNat)]) (rest := []) ⟨Nat.le_of_ble_eq_true rfl, Nat.le_of_ble_eq_true rfl⟩ rfl (Nat.le_of_ble_eq_true rfl) ⟨Nat.le_of_ble_eq_true rfl, Nat.le_of_ble_eq_true rfl⟩ d11_law_1756 ?_
                                                                                                                                        refine ok9_drawn (by decide)  (kIm h (fun a17 h => ?_))
                                                                                                                                        refine r_aload_nR F 2 rfl rfl d11_law_1759 ?_
                                                                                                                                        refine r_aload_n F 0 rfl rfl d11_law_1760 ?_
                                                                                                                                        refine r_iload_n F 3 rfl rfl d11_law_1761 ?_
                                                                                                                                        refine r_iconst F (z := 1) d11_law_1762 ?_
                                                                                                                                        refine r_iadd F d11_law_1763 ?_
                                                                                                                                        refine r_sld F hL hX hbl hxs hx21 d11_law_1764 ?_
                                                                                                                                        refine r_aload_n F 0 rfl rfl d11_law_1765 ?_
                                                                                                                                        refine r_iload_n F 3 rfl rfl d11_law_1766 ?_
                                                                                                                                        refine r_iconst F (z := 2) d11_law_1767 ?_
                                                                                                                                        refine r_iadd F d11_law_1768 ?_
                                                                                                                                        refine r_sld F hL hX hbl hxs hx22 d11_law_1769 ?_
                                                                                                                                        replace h := wpo_bind h
                                                                                                                                        refine r_callV0 F lm11_280 mf10_drawn (vc117 (by decide)) rfl (fr := 5) (lo := 117) (As := [vI (xs (s1.1 + 1).toNat), vI (xs (s1.1 + 2).toNat)]) (rest := [vI a17.1]) ⟨Nat.le_of_ble_eq_true rfl, Nat.le_of_ble_eq_true rfl⟩ rfl (Nat.le_of_ble_eq_true rfl) ⟨Nat.le_of_ble_eq_true rfl, Nat.le_of_ble_eq_true rfl⟩ d11_law_1770 ?_
                                                                                                                                        refine ok10_drawn (by decide)  (kIm h (fun a18 h => ?_))
                                                                                                                                        refine r_icmp_eq F (tgt := 2092) d11_law_1773 (by decide) (fun hb => ?_) (fun hb => ?_)
                                                                                                                                        · replace h := wpo_pos h hb
                                                                                                                                          refine r_iinc F 3 (lv' := [(3, vI (s1.1 + 6)), (0, Value.ref b), (1, vR X 0), (2, vR X 117)]) rfl (Nat.le_of_ble_eq_true rfl) rfl d11_law_2092 ?_
                                                                                                                                          refine r_goto F (tgt := 18) (by decide) d11_law_2095 ?_
                                                                                                                                          refine r_weak [1, 2, 3, 0] rfl ?_
                                                                                                                                          replace h := wpo_inl h
                                                                                                                                          exact h
                                                                                                                                        · replace h := wpo_neg h hb
                                                                                                                                          refine r_iconst F (z := 0) d11_law_1776 ?_
                                                                                                                                          exact (wpo_none h).elim
                                                                                                                                      · replace h := wpo_neg h hb64
                                                                                                                                        by_cases hb65 : w32 (and32 (xs s1.1.toNat) 127) = 65
                                                                                                                                        · replace h := wpo_pos h hb65
                                                                                                                                          refine r_tabIn F 65 hb65 d11_law_33 (by decide) (by decide) rfl (tgt := 1778) (by decide) ?_
                                                                                                                                          refine r_aload_nR F 1 rfl rfl d11_law_1778 ?_
                                                                                                                                          refine r_aload_n F 0 rfl rfl d11_law_1779 ?_
                                                                                                                                          refine r_iload_n F 3 rfl rfl d11_law_1780 ?_
                                                                                                                                          refine r_iconst F (z := 1) d11_law_1781 ?_
                                                                                                                                          refine r_iadd F d11_law_1782 ?_
                                                                                                                                          obtain ⟨hx18, h⟩ := wpo_chk h
                                                                                                                                          refine r_sld F hL hX hbl hxs hx18 d11_law_1783 ?_
                                                                                                                                          refine r_aload_n F 0 rfl rfl d11_law_1784 ?_
                                                                                                                                          refine r_iload_n F 3 rfl rfl d11_law_1785 ?_
                                                                                                                                          refine r_iconst F (z := 2) d11_law_1786 ?_
                                                                                                                                          refine r_iadd F d11_law_1787 ?_
                                                                                                                                          obtain ⟨hx19, h⟩ := wpo_chk h
                                                                                                                                          refine r_sld F hL hX hbl hxs hx19 d11_law_1788 ?_
                                                                                                                                          refine r_aload_n F 0 rfl rfl d11_law_1789 ?_
                                                                                                                                          refine r_iload_n F 3 rfl rfl d11_law_1790 ?_
                                                                                                                                          refine r_iconst F (z := 3) d11_law_1791 ?_
                                                                                                                                          refine r_iadd F d11_law_1792 ?_
                                                                                                                                          obtain ⟨hx20, h⟩ := wpo_chk h
                                                                                                                                          refine r_sld F hL hX hbl hxs hx20 d11_law_1793 ?_
                                                                                                                                          replace h := wpo_bind h
                                                                                                                                          refine r_callV0 F lm11_281 mf9_luck (vc0 (by decide)) rfl (fr := 4) (lo := 89) (As := [vI (xs (s1.1 + 1).toNat), vI (xs (s1.1 + 2).toNat), vI (xs (s1.1 + 3).toNat)]) (rest := []) ⟨Nat.le_of_ble_eq_true rfl, Nat.le_of_ble_eq_true rfl⟩ rfl (Nat.le_of_ble_eq_true rfl) ⟨Nat.le_of_ble_eq_true rfl, Nat.le_of_ble_eq_true rfl⟩ d11_law_1794 ?_
                                                                                                                                          refine ok9_luck (by decide)  (kIm h (fun a15 h => ?_))
                                                                                                                                          refine r_aload_nR F 2 rfl rfl d11_law_1797 ?_
                                                                                                                                          refine r_aload_n F 0 rfl rfl d11_law_1798 ?_
                                                                                                                                          refine r_iload_n F 3 rfl rfl d11_law_1799 ?_
                                                                                                                                          refine r_iconst F (z := 1) d11_law_1800 ?_
                                                                                                                                          refine r_iadd F d11_law_1801 ?_
                                                                                                                                          refine r_sld F hL hX hbl hxs hx18 d11_law_1802 ?_
                                                                                                                                          refine r_aload_n F 0 rfl rfl d11_law_1803 ?_
                                                                                                                                          refine r_iload_n F 3 rfl rfl d11_law_1804 ?_
                                                                                                                                          refine r_iconst F (z := 2) d11_law_1805 ?_
                                                                                                                                          refine r_iadd F d11_law_1806 ?_
                                                                                                                                          refine r_sld F hL hX hbl hxs hx19 d11_law_1807 ?_
                                                                                                                                          refine r_aload_n F 0 rfl rfl d11_law_1808 ?_
                                                                                                                                          refine r_iload_n F 3 rfl rfl d11_law_1809 ?_
                                                                                                                                          refine r_iconst F (z := 3) d11_law_1810 ?_
                                                                                                                                          refine r_iadd F d11_law_1811 ?_
                                                                                                                                          refine r_sld F hL hX hbl hxs hx20 d11_law_1812 ?_
                                                                                                                                          replace h := wpo_bind h
                                                                                                                                          refine r_callV0 F lm11_285 mf10_luck (vc117 (by decide)) rfl (fr := 5) (lo := 117) (As := [vI (xs (s1.1 + 1).toNat), vI (xs (s1.1 + 2).toNat), vI (xs (s1.1 + 3).toNat)]) (rest := [vI a15.1]) ⟨Nat.le_of_ble_eq_true rfl, Nat.le_of_ble_eq_true rfl⟩ rfl (Nat.le_of_ble_eq_true rfl) ⟨Nat.le_of_ble_eq_true rfl, Nat.le_of_ble_eq_true rfl⟩ d11_law_1813 ?_
                                                                                                                                          refine ok10_luck (by decide)  (kIm h (fun a16 h => ?_))
                                                                                                                                          refine r_icmp_eq F (tgt := 2092) d11_law_1816 (by decide) (fun hb => ?_) (fun hb => ?_)
                                                                                                                                          · replace h := wpo_pos h hb
                                                                                                                                            refine r_iinc F 3 (lv' := [(3, vI (s1.1 + 6)), (0, Value.ref b), (1, vR X 0), (2, vR X 117)]) rfl (Nat.le_of_ble_eq_true rfl) rfl d11_law_2092 ?_
                                                                                                                                            refine r_goto F (tgt := 18) (by decide) d11_law_2095 ?_
                                                                                                                                            refine r_weak [1, 2, 3, 0] rfl ?_
                                                                                                                                            replace h := wpo_inl h
                                                                                                                                            exact h
                                                                                                                                          · replace h := wpo_neg h hb
                                                                                                                                            refine r_iconst F (z := 0) d11_law_1819 ?_
                                                                                                                                            exact (wpo_none h).elim
                                                                                                                                        · replace h := wpo_neg h hb65
                                                                                                                                          by_cases hb66 : w32 (and32 (xs s1.1.toNat) 127) = 66
                                                                                                                                          · replace h := wpo_pos h hb66
                                                                                                                                            refine r_tabIn F 66 hb66 d11_law_33 (by decide) (by decide) rfl (tgt := 1821) (by decide) ?_
                                                                                                                                            refine r_aload_nR F 1 rfl rfl d11_law_1821 ?_
                                                                                                                                            refine r_aload_n F 0 rfl rfl d11_law_1822 ?_
                                                                                                                                            refine r_iload_n F 3 rfl rfl d11_law_1823 ?_
                                                                                                                                            refine r_iconst F (z := 1) d11_law_1824 ?_
                                                                                                                                            refine r_iadd F d11_law_1825 ?_
                                                                                                                                            obtain ⟨hx17, h⟩ := wpo_chk h
                                                                                                                                            refine r_sld F hL hX hbl hxs hx17 d11_law_1826 ?_
                                                                                                                                            replace h := wpo_bind h
                                                                                                                                            refine r_callV0 F lm11_286 mf9_widen (vc0 (by decide)) rfl (fr := 4) (lo := 88) (As := [vI (xs (s1.1 + 1).toNat)]) (rest := []) ⟨Nat.le_of_ble_eq_true rfl, Nat.le_of_ble_eq_true rfl⟩ rfl (Nat.le_of_ble_eq_true rfl) ⟨Nat.le_of_ble_eq_true rfl, Nat.le_of_ble_eq_true rfl⟩ d11_law_1827 ?_
                                                                                                                                            refine ok9_widen (by decide)  (kIm h (fun a13 h => ?_))
                                                                                                                                            refine r_aload_nR F 2 rfl rfl d11_law_1830 ?_
                                                                                                                                            refine r_aload_n F 0 rfl rfl d11_law_1831 ?_
                                                                                                                                            refine r_iload_n F 3 rfl rfl d11_law_1832 ?_
                                                                                                                                            refine r_iconst F (z := 1) d11_law_1833 ?_
                                                                                                                                            refine r_iadd F d11_law_1834 ?_
                                                                                                                                            refine r_sld F hL hX hbl hxs hx17 d11_law_1835 ?_
                                                                                                                                            replace h := wpo_bind h
                                                                                                                                            refine r_callV0 F lm11_289 mf10_widen (vc117 (by decide)) rfl (fr := 1) (lo := 25) (As := [vI (xs (s1.1 + 1).toNat)]) (rest := [vI a13.1]) ⟨Nat.le_of_ble_eq_true rfl, Nat.le_of_ble_eq_true rfl⟩ rfl (Nat.le_of_ble_eq_true rfl) ⟨Nat.le_of_ble_eq_true rfl, Nat.le_of_ble_eq_true rfl⟩ d11_law_1836 ?_
                                                                                                                                            refine ok10_widen (by decide)  (kIm h (fun a14 h => ?_))
                                                                                                                                            refine r_icmp_eq F (tgt := 2092) d11_law_1839 (by decide) (fun hb => ?_) (fun hb => ?_)
                                                                                                                                            · replace h := wpo_pos h hb
                                                                                                                                              refine r_iinc F 3 (lv' := [(3, vI (s1.1 + 6)), (0, Value.ref b), (1, vR X 0), (2, vR X 117)]) rfl (Nat.le_of_ble_eq_true rfl) rfl d11_law_2092 ?_
                                                                                                                                              refine r_goto F (tgt := 18) (by decide) d11_law_2095 ?_
                                                                                                                                              refine r_weak [1, 2, 3, 0] rfl ?_
                                                                                                                                              replace h := wpo_inl h
                                                                                                                                              exact h
                                                                                                                                            · replace h := wpo_neg h hb
                                                                                                                                              refine r_iconst F (z := 0) d11_law_1842 ?_
                                                                                                                                              exact (wpo_none h).elim
                                                                                                                                          · replace h := wpo_neg h hb66
                                                                                                                                            by_cases hb67 : w32 (and32 (xs s1.1.toNat) 127) = 67
                                                                                                                                            · replace h := wpo_pos h hb67
                                                                                                                                              refine r_tabIn F 67 hb67 d11_law_33 (by decide) (by decide) rfl (tgt := 1844) (by decide) ?_
                                                                                                                                              refine r_aload_nR F 1 rfl rfl d11_law_1844 ?_
                                                                                                                                              refine r_aload_n F 0 rfl rfl d11_law_1845 ?_
                                                                                                                                              refine r_iload_n F 3 rfl rfl d11_law_1846 ?_
                                                                                                                                              refine r_iconst F (z := 1) d11_law_1847 ?_
                                                                                                                                              refine r_iadd F d11_law_1848 ?_
                                                                                                                                              obtain ⟨hx16, h⟩ := wpo_chk h
                                                                                                                                              refine r_sld F hL hX hbl hxs hx16 d11_law_1849 ?_
                                                                                                                                              replace h := wpo_bind h
                                                                                                                                              refine r_callV0 F lm11_290 mf9_count (vc0 (by decide)) rfl (fr := 1) (lo := 22) (As := [vI (xs (s1.1 + 1).toNat)]) (rest := []) ⟨Nat.le_of_ble_eq_true rfl, Nat.le_of_ble_eq_true rfl⟩ rfl (Nat.le_of_ble_eq_true rfl) ⟨Nat.le_of_ble_eq_true rfl, Nat.le_of_ble_eq_true rfl⟩ d11_law_1850 ?_
                                                                                                                                              refine ok9_count (by decide)  (kI h (fun a11 h => ?_))
                                                                                                                                              refine r_aload_nR F 2 rfl rfl d11_law_1853 ?_
                                                                                                                                              refine r_aload_n F 0 rfl rfl d11_law_1854 ?_
                                                                                                                                              refine r_iload_n F 3 rfl rfl d11_law_1855 ?_
                                                                                                                                              refine r_iconst F (z := 1) d11_law_1856 ?_
                                                                                                                                              refine r_iadd F d11_law_1857 ?_
                                                                                                                                              refine r_sld F hL hX hbl hxs hx16 d11_law_1858 ?_
                                                                                                                                              replace h := wpo_bind h
                                                                                                                                              refine r_callV0 F lm11_293 mf10_count (vc117 (by decide)) rfl (fr := 1) (lo := 25) (As := [vI (xs (s1.1 + 1).toNat)]) (rest := [vI a11]) ⟨Nat.le_of_ble_eq_true rfl, Nat.le_of_ble_eq_true rfl⟩ rfl (Nat.le_of_ble_eq_true rfl) ⟨Nat.le_of_ble_eq_true rfl, Nat.le_of_ble_eq_true rfl⟩ d11_law_1859 ?_
                                                                                                                                              refine ok10_count (by decide)  (kI h (fun a12 h => ?_))
                                                                                                                                              refine r_icmp_eq F (tgt := 2092) d11_law_1862 (by decide) (fun hb => ?_) (fun hb => ?_)
                                                                                                                                              · replace h := wpo_pos h hb
                                                                                                                                                refine r_iinc F 3 (lv' := [(3, vI (s1.1 + 6)), (0, Value.ref b), (1, vR X 0), (2, vR X 117)]) rfl (Nat.le_of_ble_eq_true rfl) rfl d11_law_2092 ?_
                                                                                                                                                refine r_goto F (tgt := 18) (by decide) d11_law_2095 ?_
                                                                                                                                                refine r_weak [1, 2, 3, 0] rfl ?_
                                                                                                                                                replace h := wpo_inl h
                                                                                                                                                exact h
                                                                                                                                              · replace h := wpo_neg h hb
                                                                                                                                                refine r_iconst F (z := 0) d11_law_1865 ?_
                                                                                                                                                exact (wpo_none h).elim
                                                                                                                                            · replace h := wpo_neg h hb67
                                                                                                                                              by_cases hb68 : w32 (and32 (xs s1.1.toNat) 127) = 68
                                                                                                                                              · replace h := wpo_pos h hb68
                                                                                                                                                refine r_tabIn F 68 hb68 d11_law_33 (by decide) (by decide) rfl (tgt := 1867) (by decide) ?_
                                                                                                                                                refine r_aload_nR F 1 rfl rfl d11_law_1867 ?_
                                                                                                                                                refine r_aload_n F 0 rfl rfl d11_law_1868 ?_
                                                                                                                                                refine r_iload_n F 3 rfl rfl d11_law_1869 ?_
                                                                                                                                                refine r_iconst F (z := 1) d11_law_1870 ?_
                                                                                                                                                refine r_iadd F d11_law_1871 ?_
                                                                                                                                                obtain ⟨hx15, h⟩ := wpo_chk h
                                                                                                                                                refine r_sld F hL hX hbl hxs hx15 d11_law_1872 ?_
                                                                                                                                                replace h := wpo_bind h
                                                                                                                                                refine r_callV0 F lm11_294 mf9_image (vc0 (by decide)) rfl (fr := 2) (lo := 47) (As := [vI (xs (s1.1 + 1).toNat)]) (rest := []) ⟨Nat.le_of_ble_eq_true rfl, Nat.le_of_ble_eq_true rfl⟩ rfl (Nat.le_of_ble_eq_true rfl) ⟨Nat.le_of_ble_eq_true rfl, Nat.le_of_ble_eq_true rfl⟩ d11_law_1873 ?_
                                                                                                                                                refine ok9_image (by decide)  (kIm h (fun a9 h => ?_))
                                                                                                                                                refine r_aload_nR F 2 rfl rfl d11_law_1876 ?_
                                                                                                                                                refine r_aload_n F 0 rfl rfl d11_law_1877 ?_
                                                                                                                                                refine r_iload_n F 3 rfl rfl d11_law_1878 ?_
                                                                                                                                                refine r_iconst F (z := 1) d11_law_1879 ?_
                                                                                                                                                refine r_iadd F d11_law_1880 ?_
                                                                                                                                                refine r_sld F hL hX hbl hxs hx15 d11_law_1881 ?_
                                                                                                                                                replace h := wpo_bind h
                                                                                                                                                refine r_callV0 F lm11_297 mf10_image (vc117 (by decide)) rfl (fr := 1) (lo := 25) (As := [vI (xs (s1.1 + 1).toNat)]) (rest := [vI a9.1]) ⟨Nat.le_of_ble_eq_true rfl, Nat.le_of_ble_eq_true rfl⟩ rfl (Nat.le_of_ble_eq_true rfl) ⟨Nat.le_of_ble_eq_true rfl, Nat.le_of_ble_eq_true rfl⟩ d11_law_1882 ?_
                                                                                                                                                refine ok10_image (by decide)  (kIm h (fun a10 h => ?_))
                                                                                                                                                refine r_icmp_eq F (tgt := 2092) d11_law_1885 (by decide) (fun hb => ?_) (fun hb => ?_)
                                                                                                                                                · replace h := wpo_pos h hb
                                                                                                                                                  refine r_iinc F 3 (lv' := [(3, vI (s1.1 + 6)), (0, Value.ref b), (1, vR X 0), (2, vR X 117)]) rfl (Nat.le_of_ble_eq_true rfl) rfl d11_law_2092 ?_
                                                                                                                                                  refine r_goto F (tgt := 18) (by decide) d11_law_2095 ?_
                                                                                                                                                  refine r_weak [1, 2, 3, 0] rfl ?_
                                                                                                                                                  replace h := wpo_inl h
                                                                                                                                                  exact h
                                                                                                                                                · replace h := wpo_neg h hb
                                                                                                                                                  refine r_iconst F (z := 0) d11_law_1888 ?_
                                                                                                                                                  exact (wpo_none h).elim
                                                                                                                                              · replace h := wpo_neg h hb68
                                                                                                                                                by_cases hb69 : w32 (and32 (xs s1.1.toNat) 127) = 69
                                                                                                                                                · replace h := wpo_pos h hb69
                                                                                                                                                  refine r_tabIn F 69 hb69 d11_law_33 (by decide) (by decide) rfl (tgt := 1890) (by decide) ?_
                                                                                                                                                  refine r_aload_nR F 1 rfl rfl d11_law_1890 ?_
                                                                                                                                                  refine r_aload_n F 0 rfl rfl d11_law_1891 ?_
                                                                                                                                                  refine r_iload_n F 3 rfl rfl d11_law_1892 ?_
                                                                                                                                                  refine r_iconst F (z := 1) d11_law_1893 ?_
                                                                                                                                                  refine r_iadd F d11_law_1894 ?_
                                                                                                                                                  obtain ⟨hx14, h⟩ := wpo_chk h
                                                                                                                                                  refine r_sld F hL hX hbl hxs hx14 d11_law_1895 ?_
                                                                                                                                                  replace h := wpo_bind h
                                                                                                                                                  refine r_callV0 F lm11_298 mf9_back (vc0 (by decide)) rfl (fr := 4) (lo := 88) (As := [vI (xs (s1.1 + 1).toNat)]) (rest := []) ⟨Nat.le_of_ble_eq_true rfl, Nat.le_of_ble_eq_true rfl⟩ rfl (Nat.le_of_ble_eq_true rfl) ⟨Nat.le_of_ble_eq_true rfl, Nat.le_of_ble_eq_true rfl⟩ d11_law_1896 ?_
                                                                                                                                                  refine ok9_back (by decide)  (kIm h (fun a7 h => ?_))
                                                                                                                                                  refine r_aload_nR F 2 rfl rfl d11_law_1899 ?_
                                                                                                                                                  refine r_aload_n F 0 rfl rfl d11_law_1900 ?_
                                                                                                                                                  refine r_iload_n F 3 rfl rfl d11_law_1901 ?_
                                                                                                                                                  refine r_iconst F (z := 1) d11_law_1902 ?_
                                                                                                                                                  refine r_iadd F d11_law_1903 ?_
                                                                                                                                                  refine r_sld F hL hX hbl hxs hx14 d11_law_1904 ?_
                                                                                                                                                  replace h := wpo_bind h
                                                                                                                                                  refine r_callV0 F lm11_301 mf10_back (vc117 (by decide)) rfl (fr := 1) (lo := 25) (As := [vI (xs (s1.1 + 1).toNat)]) (rest := [vI a7.1]) ⟨Nat.le_of_ble_eq_true rfl, Nat.le_of_ble_eq_true rfl⟩ rfl (Nat.le_of_ble_eq_true rfl) ⟨Nat.le_of_ble_eq_true rfl, Nat.le_of_ble_eq_true rfl⟩ d11_law_1905 ?_
                                                                                                                                                  refine ok10_back (by decide)  (kIm h (fun a8 h => ?_))
                                                                                                                                                  refine r_icmp_eq F (tgt := 2092) d11_law_1908 (by decide) (fun hb => ?_) (fun hb => ?_)
                                                                                                                                                  · replace h := wpo_pos h hb
                                                                                                                                                    refine r_iinc F 3 (lv' := [(3, vI (s1.1 + 6)), (0, Value.ref b), (1, vR X 0), (2, vR X 117)]) rfl (Nat.le_of_ble_eq_true rfl) rfl d11_law_2092 ?_
                                                                                                                                                    refine r_goto F (tgt := 18) (by decide) d11_law_2095 ?_
                                                                                                                                                    refine r_weak [1, 2, 3, 0] rfl ?_
                                                                                                                                                    replace h := wpo_inl h
                                                                                                                                                    exact h
                                                                                                                                                  · replace h := wpo_neg h hb
                                                                                                                                                    refine r_iconst F (z := 0) d11_law_1911 ?_
                                                                                                                                                    exact (wpo_none h).elim
                                                                                                                                                · replace h := wpo_neg h hb69
                                                                                                                                                  by_cases hb70 : w32 (and32 (xs s1.1.toNat) 127) = 70
                                                                                                                                                  · replace h := wpo_pos h hb70
                                                                                                                                                    refine r_tabIn F 70 hb70 d11_law_33 (by decide) (by decide) rfl (tgt := 1913) (by decide) ?_
                                                                                                                                                    refine r_aload_nR F 1 rfl rfl d11_law_1913 ?_
                                                                                                                                                    refine r_aload_n F 0 rfl rfl d11_law_1914 ?_
                                                                                                                                                    refine r_iload_n F 3 rfl rfl d11_law_1915 ?_
                                                                                                                                                    refine r_iconst F (z := 1) d11_law_1916 ?_
                                                                                                                                                    refine r_iadd F d11_law_1917 ?_
                                                                                                                                                    obtain ⟨hx11, h⟩ := wpo_chk h
                                                                                                                                                    refine r_sld F hL hX hbl hxs hx11 d11_law_1918 ?_
                                                                                                                                                    refine r_aload_n F 0 rfl rfl d11_law_1919 ?_
                                                                                                                                                    refine r_iload_n F 3 rfl rfl d11_law_1920 ?_
                                                                                                                                                    refine r_iconst F (z := 2) d11_law_1921 ?_
                                                                                                                                                    refine r_iadd F d11_law_1922 ?_
                                                                                                                                                    obtain ⟨hx12, h⟩ := wpo_chk h
                                                                                                                                                    refine r_sld F hL hX hbl hxs hx12 d11_law_1923 ?_
                                                                                                                                                    refine r_aload_n F 0 rfl rfl d11_law_1924 ?_
                                                                                                                                                    refine r_iload_n F 3 rfl rfl d11_law_1925 ?_
                                                                                                                                                    refine r_iconst F (z := 3) d11_law_1926 ?_
                                                                                                                                                    refine r_iadd F d11_law_1927 ?_
                                                                                                                                                    obtain ⟨hx13, h⟩ := wpo_chk h
                                                                                                                                                    refine r_sld F hL hX hbl hxs hx13 d11_law_1928 ?_
                                                                                                                                                    replace h := wpo_bind h
                                                                                                                                                    refine r_callV0 F lm11_302 mf9_row (vc0 (by decide)) rfl (fr := 2) (lo := 46) (As := [vI (xs (s1.1 + 1).toNat), vI (xs (s1.1 + 2).toNat), vI (xs (s1.1 + 3).toNat)]) (rest := []) ⟨Nat.le_of_ble_eq_true rfl, Nat.le_of_ble_eq_true rfl⟩ rfl (Nat.le_of_ble_eq_true rfl) ⟨Nat.le_of_ble_eq_true rfl, Nat.le_of_ble_eq_true rfl⟩ d11_law_1929 ?_
                                                                                                                                                    refine ok9_row (by decide)  (kIm h (fun a5 h => ?_))
                                                                                                                                                    refine r_aload_nR F 2 rfl rfl d11_law_1932 ?_
                                                                                                                                                    refine r_aload_n F 0 rfl rfl d11_law_1933 ?_
                                                                                                                                                    refine r_iload_n F 3 rfl rfl d11_law_1934 ?_
                                                                                                                                                    refine r_iconst F (z := 1) d11_law_1935 ?_
                                                                                                                                                    refine r_iadd F d11_law_1936 ?_
                                                                                                                                                    refine r_sld F hL hX hbl hxs hx11 d11_law_1937 ?_
                                                                                                                                                    refine r_aload_n F 0 rfl rfl d11_law_1938 ?_
                                                                                                                                                    refine r_iload_n F 3 rfl rfl d11_law_1939 ?_
                                                                                                                                                    refine r_iconst F (z := 2) d11_law_1940 ?_
                                                                                                                                                    refine r_iadd F d11_law_1941 ?_
                                                                                                                                                    refine r_sld F hL hX hbl hxs hx12 d11_law_1942 ?_
                                                                                                                                                    refine r_aload_n F 0 rfl rfl d11_law_1943 ?_
                                                                                                                                                    refine r_iload_n F 3 rfl rfl d11_law_1944 ?_
                                                                                                                                                    refine r_iconst F (z := 3) d11_law_1945 ?_
                                                                                                                                                    refine r_iadd F d11_law_1946 ?_
                                                                                                                                                    refine r_sld F hL hX hbl hxs hx13 d11_law_1947 ?_
                                                                                                                                                    replace h := wpo_bind h
                                                                                                                                                    refine r_callV0 F lm11_305 mf10_row (vc117 (by decide)) rfl (fr := 2) (lo := 45) (As := [vI (xs (s1.1 + 1).toNat), vI (xs (s1.1 + 2).toNat), vI (xs (s1.1 + 3).toNat)]) (rest := [vI a5.1]) ⟨Nat.le_of_ble_eq_true rfl, Nat.le_of_ble_eq_true rfl⟩ rfl (Nat.le_of_ble_eq_true rfl) ⟨Nat.le_of_ble_eq_true rfl, Nat.le_of_ble_eq_true rfl⟩ d11_law_1948 ?_
                                                                                                                                                    refine ok10_row (by decide)  (kIm h (fun a6 h => ?_))
                                                                                                                                                    refine r_icmp_eq F (tgt := 2092) d11_law_1951 (by decide) (fun hb => ?_) (fun hb => ?_)
                                                                                                                                                    · replace h := wpo_pos h hb
                                                                                                                                                      refine r_iinc F 3 (lv' := [(3, vI (s1.1 + 6)), (0, Value.ref b), (1, vR X 0), (2, vR X 117)]) rfl (Nat.le_of_ble_eq_true rfl) rfl d11_law_2092 ?_
                                                                                                                                                      refine r_goto F (tgt := 18) (by decide) d11_law_2095 ?_
                                                                                                                                                      refine r_weak [1, 2, 3, 0] rfl ?_
                                                                                                                                                      replace h := wpo_inl h
                                                                                                                                                      exact h
                                                                                                                                                    · replace h := wpo_neg h hb
                                                                                                                                                      refine r_iconst F (z := 0) d11_law_1954 ?_
                                                                                                                                                      exact (wpo_none h).elim
                                                                                                                                                  · replace h := wpo_neg h hb70
                                                                                                                                                    by_cases hb71 : w32 (and32 (xs s1.1.toNat) 127) = 71
                                                                                                                                                    · replace h := wpo_pos h hb71
                                                                                                                                                      refine r_tabIn F 71 hb71 d11_law_33 (by decide) (by decide) rfl (tgt := 1956) (by decide) ?_
                                                                                                                                                      refine r_aload_nR F 1 rfl rfl d11_law_1956 ?_
                                                                                                                                                      refine r_aload_n F 0 rfl rfl d11_law_1957 ?_
                                                                                                                                                      refine r_iload_n F 3 rfl rfl d11_law_1958 ?_
                                                                                                                                                      refine r_iconst F (z := 1) d11_law_1959 ?_
                                                                                                                                                      refine r_iadd F d11_law_1960 ?_
                                                                                                                                                      obtain ⟨hx7, h⟩ := wpo_chk h
                                                                                                                                                      refine r_sld F hL hX hbl hxs hx7 d11_law_1961 ?_
                                                                                                                                                      refine r_aload_n F 0 rfl rfl d11_law_1962 ?_
                                                                                                                                                      refine r_iload_n F 3 rfl rfl d11_law_1963 ?_
                                                                                                                                                      refine r_iconst F (z := 2) d11_law_1964 ?_
                                                                                                                                                      refine r_iadd F d11_law_1965 ?_
                                                                                                                                                      obtain ⟨hx8, h⟩ := wpo_chk h
                                                                                                                                                      refine r_sld F hL hX hbl hxs hx8 d11_law_1966 ?_
                                                                                                                                                      refine r_aload_n F 0 rfl rfl d11_law_1967 ?_
                                                                                                                                                      refine r_iload_n F 3 rfl rfl d11_law_1968 ?_
                                                                                                                                                      refine r_iconst F (z := 3) d11_law_1969 ?_
                                                                                                                                                      refine r_iadd F d11_law_1970 ?_
                                                                                                                                                      obtain ⟨hx9, h⟩ := wpo_chk h
                                                                                                                                                      refine r_sld F hL hX hbl hxs hx9 d11_law_1971 ?_
                                                                                                                                                      refine r_i2l F d11_law_1972 ?_
                                                                                                                                                      refine r_bipush F (z := 32) (by decide) d11_law_1973 ?_
                                                                                                                                                      refine r_lshl F d11_law_1975 ?_
                                                                                                                                                      refine r_aload_n F 0 rfl rfl d11_law_1976 ?_
                                                                                                                                                      refine r_iload_n F 3 rfl rfl d11_law_1977 ?_
                                                                                                                                                      refine r_iconst F (z := 4) d11_law_1978 ?_
                                                                                                                                                      refine r_iadd F d11_law_1979 ?_
                                                                                                                                                      obtain ⟨hx10, h⟩ := wpo_chk h
                                                                                                                                                      refine r_sld F hL hX hbl hxs hx10 d11_law_1980 ?_
                                                                                                                                                      refine r_i2l F d11_law_1981 ?_
                                                                                                                                                      refine r_ldc2 F (z := 4294967295) lc11_306 d11_law_1982 ?_
                                                                                                                                                      refine r_land F d11_law_1985 ?_
                                                                                                                                                      refine r_lor F d11_law_1986 ?_
                                                                                                                                                      replace h := wpo_bind h
                                                                                                                                                      refine r_callV0 F lm11_308 mf9_write (vc0 (by decide)) rfl (fr := 1) (lo := 22) (As := [vI (xs (s1.1 + 1).toNat), vI (xs (s1.1 + 2).toNat), vL (or64 (shl64 (w32 (xs (s1.1 + 3).toNat)) 32) (and64 (w32 (xs (s1.1 + 4).toNat)) 4294967295))]) (rest := []) ⟨Nat.le_of_ble_eq_true rfl, Nat.le_of_ble_eq_true rfl⟩ rfl (Nat.le_of_ble_eq_true rfl) ⟨Nat.le_of_ble_eq_true rfl, Nat.le_of_ble_eq_true rfl⟩ d11_law_1987 ?_
                                                                                                                                                      refine ok9_write (by decide)  (kIm h (fun a3 h => ?_))
                                                                                                                                                      refine r_aload_nR F 2 rfl rfl d11_law_1990 ?_
                                                                                                                                                      refine r_aload_n F 0 rfl rfl d11_law_1991 ?_
                                                                                                                                                      refine r_iload_n F 3 rfl rfl d11_law_1992 ?_
                                                                                                                                                      refine r_iconst F (z := 1) d11_law_1993 ?_
                                                                                                                                                      refine r_iadd F d11_law_1994 ?_
                                                                                                                                                      refine r_sld F hL hX hbl hxs hx7 d11_law_1995 ?_
                                                                                                                                                      refine r_aload_n F 0 rfl rfl d11_law_1996 ?_
                                                                                                                                                      refine r_iload_n F 3 rfl rfl d11_law_1997 ?_
                                                                                                                                                      refine r_iconst F (z := 2) d11_law_1998 ?_
                                                                                                                                                      refine r_iadd F d11_law_1999 ?_
                                                                                                                                                      refine r_sld F hL hX hbl hxs hx8 d11_law_2000 ?_
                                                                                                                                                      refine r_aload_n F 0 rfl rfl d11_law_2001 ?_
                                                                                                                                                      refine r_iload_n F 3 rfl rfl d11_law_2002 ?_
                                                                                                                                                      refine r_iconst F (z := 3) d11_law_2003 ?_
                                                                                                                                                      refine r_iadd F d11_law_2004 ?_
                                                                                                                                                      refine r_sld F hL hX hbl hxs hx9 d11_law_2005 ?_
                                                                                                                                                      refine r_i2l F d11_law_2006 ?_
                                                                                                                                                      refine r_bipush F (z := 32) (by decide) d11_law_2007 ?_
                                                                                                                                                      refine r_lshl F d11_law_2009 ?_
                                                                                                                                                      refine r_aload_n F 0 rfl rfl d11_law_2010 ?_
                                                                                                                                                      refine r_iload_n F 3 rfl rfl d11_law_2011 ?_
                                                                                                                                                      refine r_iconst F (z := 4) d11_law_2012 ?_
                                                                                                                                                      refine r_iadd F d11_law_2013 ?_
                                                                                                                                                      refine r_sld F hL hX hbl hxs hx10 d11_law_2014 ?_
                                                                                                                                                      refine r_i2l F d11_law_2015 ?_
                                                                                                                                                      refine r_ldc2 F (z := 4294967295) lc11_306 d11_law_2016 ?_
                                                                                                                                                      refine r_land F d11_law_2019 ?_
                                                                                                                                                      refine r_lor F d11_law_2020 ?_
                                                                                                                                                      replace h := wpo_bind h
                                                                                                                                                      refine r_callV0 F lm11_312 mf10_write (vc117 (by decide)) rfl (fr := 2) (lo := 45) (As := [vI (xs (s1.1 + 1).toNat), vI (xs (s1.1 + 2).toNat), vL (or64 (shl64 (w32 (xs (s1.1 + 3).toNat)) 32) (and64 (w32 (xs (s1.1 + 4).toNat)) 4294967295))]) (rest := [vI a3.1]) ⟨Nat.le_of_ble_eq_true rfl, Nat.le_of_ble_eq_true rfl⟩ rfl (Nat.le_of_ble_eq_true rfl) ⟨Nat.le_of_ble_eq_true rfl, Nat.le_of_ble_eq_true rfl⟩ d11_law_2021 ?_
                                                                                                                                                      refine ok10_write (by decide)  (kIm h (fun a4 h => ?_))
                                                                                                                                                      refine r_icmp_eq F (tgt := 2092) d11_law_2024 (by decide) (fun hb => ?_) (fun hb => ?_)
                                                                                                                                                      · replace h := wpo_pos h hb
                                                                                                                                                        refine r_iinc F 3 (lv' := [(3, vI (s1.1 + 6)), (0, Value.ref b), (1, vR X 0), (2, vR X 117)]) rfl (Nat.le_of_ble_eq_true rfl) rfl d11_law_2092 ?_
                                                                                                                                                        refine r_goto F (tgt := 18) (by decide) d11_law_2095 ?_
                                                                                                                                                        refine r_weak [1, 2, 3, 0] rfl ?_
                                                                                                                                                        replace h := wpo_inl h
                                                                                                                                                        exact h
                                                                                                                                                      · replace h := wpo_neg h hb
                                                                                                                                                        refine r_iconst F (z := 0) d11_law_2027 ?_
                                                                                                                                                        exact (wpo_none h).elim
                                                                                                                                                    · replace h := wpo_neg h hb71
                                                                                                                                                      by_cases hb72 : w32 (and32 (xs s1.1.toNat) 127) = 72
                                                                                                                                                      · replace h := wpo_pos h hb72
                                                                                                                                                        refine r_tabIn F 72 hb72 d11_law_33 (by decide) (by decide) rfl (tgt := 2029) (by decide) ?_
                                                                                                                                                        refine r_aload_nR F 1 rfl rfl d11_law_2029 ?_
                                                                                                                                                        refine r_aload_n F 0 rfl rfl d11_law_2030 ?_
                                                                                                                                                        refine r_iload_n F 3 rfl rfl d11_law_2031 ?_
                                                                                                                                                        refine r_iconst F (z := 1) d11_law_2032 ?_
                                                                                                                                                        refine r_iadd F d11_law_2033 ?_
                                                                                                                                                        obtain ⟨hx2, h⟩ := wpo_chk h
                                                                                                                                                        refine r_sld F hL hX hbl hxs hx2 d11_law_2034 ?_
                                                                                                                                                        refine r_aload_n F 0 rfl rfl d11_law_2035 ?_
                                                                                                                                                        refine r_iload_n F 3 rfl rfl d11_law_2036 ?_
                                                                                                                                                        refine r_iconst F (z := 2) d11_law_2037 ?_
                                                                                                                                                        refine r_iadd F d11_law_2038 ?_
                                                                                                                                                        obtain ⟨hx3, h⟩ := wpo_chk h
                                                                                                                                                        refine r_sld F hL hX hbl hxs hx3 d11_law_2039 ?_
                                                                                                                                                        refine r_aload_n F 0 rfl rfl d11_law_2040 ?_
                                                                                                                                                        refine r_iload_n F 3 rfl rfl d11_law_2041 ?_
                                                                                                                                                        refine r_iconst F (z := 3) d11_law_2042 ?_
                                                                                                                                                        refine r_iadd F d11_law_2043 ?_
                                                                                                                                                        obtain ⟨hx4, h⟩ := wpo_chk h
                                                                                                                                                        refine r_sld F hL hX hbl hxs hx4 d11_law_2044 ?_
                                                                                                                                                        refine r_aload_n F 0 rfl rfl d11_law_2045 ?_
                                                                                                                                                        refine r_iload_n F 3 rfl rfl d11_law_2046 ?_
                                                                                                                                                        refine r_iconst F (z := 4) d11_law_2047 ?_
                                                                                                                                                        refine r_iadd F d11_law_2048 ?_
                                                                                                                                                        obtain ⟨hx5, h⟩ := wpo_chk h
                                                                                                                                                        refine r_sld F hL hX hbl hxs hx5 d11_law_2049 ?_
                                                                                                                                                        refine r_aload_n F 0 rfl rfl d11_law_2050 ?_
                                                                                                                                                        refine r_iload_n F 3 rfl rfl d11_law_2051 ?_
                                                                                                                                                        refine r_iconst F (z := 5) d11_law_2052 ?_
                                                                                                                                                        refine r_iadd F d11_law_2053 ?_
                                                                                                                                                        obtain ⟨hx6, h⟩ := wpo_chk h
                                                                                                                                                        refine r_sld F hL hX hbl hxs hx6 d11_law_2054 ?_
                                                                                                                                                        replace h := wpo_bind h
                                                                                                                                                        refine r_callV0 F lm11_313 mf9_paste (vc0 (by decide)) rfl (fr := 1) (lo := 26) (As := [vI (xs (s1.1 + 1).toNat), vI (xs (s1.1 + 2).toNat), vI (xs (s1.1 + 3).toNat), vI (xs (s1.1 + 4).toNat), vI (xs (s1.1 + 5).toNat)]) (rest := []) ⟨Nat.le_of_ble_eq_true rfl, Nat.le_of_ble_eq_true rfl⟩ rfl (Nat.le_of_ble_eq_true rfl) ⟨Nat.le_of_ble_eq_true rfl, Nat.le_of_ble_eq_true rfl⟩ d11_law_2055 ?_
                                                                                                                                                        refine ok9_paste (by decide)  (kIm h (fun a1 h => ?_))
                                                                                                                                                        refine r_aload_nR F 2 rfl rfl d11_law_2058 ?_
                                                                                                                                                        refine r_aload_n F 0 rfl rfl d11_law_2059 ?_
                                                                                                                                                        refine r_iload_n F 3 rfl rfl d11_law_2060 ?_
                                                                                                                                                        refine r_iconst F (z := 1) d11_law_2061 ?_
                                                                                                                                                        refine r_iadd F d11_law_2062 ?_
                                                                                                                                                        refine r_sld F hL hX hbl hxs hx2 d11_law_2063 ?_
                                                                                                                                                        refine r_aload_n F 0 rfl rfl d11_law_2064 ?_
                                                                                                                                                        refine r_iload_n F 3 rfl rfl d11_law_2065 ?_
                                                                                                                                                        refine r_iconst F (z := 2) d11_law_2066 ?_
                                                                                                                                                        refine r_iadd F d11_law_2067 ?_
                                                                                                                                                        refine r_sld F hL hX hbl hxs hx3 d11_law_2068 ?_
                                                                                                                                                        refine r_aload_n F 0 rfl rfl d11_law_2069 ?_
                                                                                                                                                        refine r_iload_n F 3 rfl rfl d11_law_2070 ?_
                                                                                                                                                        refine r_iconst F (z := 3) d11_law_2071 ?_
                                                                                                                                                        refine r_iadd F d11_law_2072 ?_
                                                                                                                                                        refine r_sld F hL hX hbl hxs hx4 d11_law_2073 ?_
                                                                                                                                                        refine r_aload_n F 0 rfl rfl d11_law_2074 ?_
                                                                                                                                                        refine r_iload_n F 3 rfl rfl d11_law_2075 ?_
                                                                                                                                                        refine r_iconst F (z := 4) d11_law_2076 ?_
                                                                                                                                                        refine r_iadd F d11_law_2077 ?_
                                                                                                                                                        refine r_sld F hL hX hbl hxs hx5 d11_law_2078 ?_
                                                                                                                                                        refine r_aload_n F 0 rfl rfl d11_law_2079 ?_
                                                                                                                                                        refine r_iload_n F 3 rfl rfl d11_law_2080 ?_
                                                                                                                                                        refine r_iconst F (z := 5) d11_law_2081 ?_
                                                                                                                                                        refine r_iadd F d11_law_2082 ?_
                                                                                                                                                        refine r_sld F hL hX hbl hxs hx6 d11_law_2083 ?_
                                                                                                                                                        replace h := wpo_bind h
                                                                                                                                                        refine r_callV0 F lm11_316 mf10_paste (vc117 (by decide)) rfl (fr := 2) (lo := 45) (As := [vI (xs (s1.1 + 1).toNat), vI (xs (s1.1 + 2).toNat), vI (xs (s1.1 + 3).toNat), vI (xs (s1.1 + 4).toNat), vI (xs (s1.1 + 5).toNat)]) (rest := [vI a1.1]) ⟨Nat.le_of_ble_eq_true rfl, Nat.le_of_ble_eq_true rfl⟩ rfl (Nat.le_of_ble_eq_true rfl) ⟨Nat.le_of_ble_eq_true rfl, Nat.le_of_ble_eq_true rfl⟩ d11_law_2084 ?_
                                                                                                                                                        refine ok10_paste (by decide)  (kIm h (fun a2 h => ?_))
                                                                                                                                                        refine r_icmp_eq F (tgt := 2092) d11_law_2087 (by decide) (fun hb => ?_) (fun hb => ?_)
                                                                                                                                                        · replace h := wpo_pos h hb
                                                                                                                                                          refine r_iinc F 3 (lv' := [(3, vI (s1.1 + 6)), (0, Value.ref b), (1, vR X 0), (2, vR X 117)]) rfl (Nat.le_of_ble_eq_true rfl) rfl d11_law_2092 ?_
                                                                                                                                                          refine r_goto F (tgt := 18) (by decide) d11_law_2095 ?_
                                                                                                                                                          refine r_weak [1, 2, 3, 0] rfl ?_
                                                                                                                                                          replace h := wpo_inl h
                                                                                                                                                          exact h
                                                                                                                                                        · replace h := wpo_neg h hb
                                                                                                                                                          refine r_iconst F (z := 0) d11_law_2090 ?_
                                                                                                                                                          exact (wpo_none h).elim
                                                                                                                                                      · replace h := wpo_neg h hb72
                                                                                                                                                        refine r_tabOut F d11_law_33 ?_ (tgt := 2092) (by decide) ?_
                                                                                                                                                        · omega
                                                                                                                                                        · refine r_iinc F 3 (lv' := [(3, vI (s1.1 + 6)), (0, Value.ref b), (1, vR X 0), (2, vR X 117)]) rfl (Nat.le_of_ble_eq_true rfl) rfl d11_law_2092 ?_
                                                                                                                                                          refine r_goto F (tgt := 18) (by decide) d11_law_2095 ?_
                                                                                                                                                          refine r_weak [1, 2, 3, 0] rfl ?_
                                                                                                                                                          replace h := wpo_inl h
                                                                                                                                                          exact h
