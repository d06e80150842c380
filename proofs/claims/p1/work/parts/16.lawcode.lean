/-! THE LAW FROM ITS ENTRY, out of what is owed of the runs. By program (wip/tools/mk81.py). -/
theorem dl_0 : decode code 0 = .ok (.new 7, 3) := by decide +kernel
theorem dl_3 : decode code 3 = .ok (.dup, 1) := by decide +kernel
theorem dl_4 : decode code 4 = .ok (.invokespecial 9, 3) := by decide +kernel
theorem dl_7 : decode code 7 = .ok (.astore_n 1, 1) := by decide +kernel
theorem dl_8 : decode code 8 = .ok (.new 10, 3) := by decide +kernel
theorem dl_11 : decode code 11 = .ok (.dup, 1) := by decide +kernel
theorem dl_12 : decode code 12 = .ok (.invokespecial 12, 3) := by decide +kernel
theorem dl_15 : decode code 15 = .ok (.astore_n 2, 1) := by decide +kernel
theorem dl_16 : decode code 16 = .ok (.iconst 0, 1) := by decide +kernel
theorem dl_17 : decode code 17 = .ok (.istore_n 3, 1) := by decide +kernel
theorem dl_18 : decode code 18 = .ok (.iload_n 3, 1) := by decide +kernel
theorem dl_19 : decode code 19 = .ok (.aload_n 0, 1) := by decide +kernel
theorem dl_20 : decode code 20 = .ok (.arraylength, 1) := by decide +kernel
theorem dl_21 : decode code 21 = .ok (.bipush 6, 2) := by decide +kernel
theorem dl_23 : decode code 23 = .ok (.isub, 1) := by decide +kernel
theorem dl_24 : decode code 24 = .ok (.if_icmp .gt 2004, 3) := by decide +kernel
theorem dl_27 : decode code 27 = .ok (.aload_n 0, 1) := by decide +kernel
theorem dl_28 : decode code 28 = .ok (.iload_n 3, 1) := by decide +kernel
theorem dl_29 : decode code 29 = .ok (.iaload, 1) := by decide +kernel
theorem dl_30 : decode code 30 = .ok (.bipush 63, 2) := by decide +kernel
theorem dl_32 : decode code 32 = .ok (.iand, 1) := by decide +kernel
theorem dl_33 : decode code 33 = .ok (.tableswitch 1989 0 59 #[255, 288, 311, 354, 387, 420, 453, 486, 509, 522, 555, 568, 591, 604, 627, 660, 693, 726, 759, 782, 825, 858, 891, 924, 957, 1010, 1043, 1077, 1110, 1143, 1167, 1190, 1223, 1256, 1279, 1302, 1335, 1378, 1401, 1414, 1457, 1500, 1523, 1546, 1599, 1612, 1625, 1658, 1681, 1714, 1728, 1791, 1814, 1847, 1870, 1903, 1936, 1950, 1963, 1976], 255) := by decide +kernel
theorem dl_288 : decode code 288 = .ok (.aload_n 1, 1) := by decide +kernel
theorem dl_289 : decode code 289 = .ok (.aload_n 0, 1) := by decide +kernel
theorem dl_290 : decode code 290 = .ok (.iload_n 3, 1) := by decide +kernel
theorem dl_291 : decode code 291 = .ok (.iconst 1, 1) := by decide +kernel
theorem dl_292 : decode code 292 = .ok (.iadd, 1) := by decide +kernel
theorem dl_293 : decode code 293 = .ok (.iaload, 1) := by decide +kernel
theorem dl_294 : decode code 294 = .ok (.aload_n 0, 1) := by decide +kernel
theorem dl_295 : decode code 295 = .ok (.iload_n 3, 1) := by decide +kernel
theorem dl_296 : decode code 296 = .ok (.iconst 2, 1) := by decide +kernel
theorem dl_297 : decode code 297 = .ok (.iadd, 1) := by decide +kernel
theorem dl_298 : decode code 298 = .ok (.iaload, 1) := by decide +kernel
theorem dl_299 : decode code 299 = .ok (.invokevirtual 13, 3) := by decide +kernel
theorem dl_302 : decode code 302 = .ok (.aload_n 2, 1) := by decide +kernel
theorem dl_303 : decode code 303 = .ok (.aload_n 0, 1) := by decide +kernel
theorem dl_304 : decode code 304 = .ok (.iload_n 3, 1) := by decide +kernel
theorem dl_305 : decode code 305 = .ok (.iconst 1, 1) := by decide +kernel
theorem dl_306 : decode code 306 = .ok (.iadd, 1) := by decide +kernel
theorem dl_307 : decode code 307 = .ok (.iaload, 1) := by decide +kernel
theorem dl_308 : decode code 308 = .ok (.aload_n 0, 1) := by decide +kernel
theorem dl_309 : decode code 309 = .ok (.iload_n 3, 1) := by decide +kernel
theorem dl_310 : decode code 310 = .ok (.iconst 2, 1) := by decide +kernel
theorem dl_311 : decode code 311 = .ok (.iadd, 1) := by decide +kernel
theorem dl_312 : decode code 312 = .ok (.iaload, 1) := by decide +kernel
theorem dl_313 : decode code 313 = .ok (.invokevirtual 17, 3) := by decide +kernel
theorem dl_316 : decode code 316 = .ok (.if_icmp .eq 1706, 3) := by decide +kernel
theorem dl_319 : decode code 319 = .ok (.iconst 0, 1) := by decide +kernel
theorem dl_320 : decode code 320 = .ok (.ireturn, 1) := by decide +kernel
theorem dl_321 : decode code 321 = .ok (.aload_n 1, 1) := by decide +kernel
theorem dl_322 : decode code 322 = .ok (.aload_n 0, 1) := by decide +kernel
theorem dl_323 : decode code 323 = .ok (.iload_n 3, 1) := by decide +kernel
theorem dl_324 : decode code 324 = .ok (.iconst 1, 1) := by decide +kernel
theorem dl_325 : decode code 325 = .ok (.iadd, 1) := by decide +kernel
theorem dl_326 : decode code 326 = .ok (.iaload, 1) := by decide +kernel
theorem dl_327 : decode code 327 = .ok (.invokevirtual 18, 3) := by decide +kernel
theorem dl_330 : decode code 330 = .ok (.aload_n 2, 1) := by decide +kernel
theorem dl_331 : decode code 331 = .ok (.aload_n 0, 1) := by decide +kernel
theorem dl_332 : decode code 332 = .ok (.iload_n 3, 1) := by decide +kernel
theorem dl_333 : decode code 333 = .ok (.iconst 1, 1) := by decide +kernel
theorem dl_334 : decode code 334 = .ok (.iadd, 1) := by decide +kernel
theorem dl_335 : decode code 335 = .ok (.iaload, 1) := by decide +kernel
theorem dl_336 : decode code 336 = .ok (.invokevirtual 22, 3) := by decide +kernel
theorem dl_339 : decode code 339 = .ok (.if_icmp .eq 1683, 3) := by decide +kernel
theorem dl_342 : decode code 342 = .ok (.iconst 0, 1) := by decide +kernel
theorem dl_343 : decode code 343 = .ok (.ireturn, 1) := by decide +kernel
theorem dl_344 : decode code 344 = .ok (.aload_n 1, 1) := by decide +kernel
theorem dl_345 : decode code 345 = .ok (.aload_n 0, 1) := by decide +kernel
theorem dl_346 : decode code 346 = .ok (.iload_n 3, 1) := by decide +kernel
theorem dl_347 : decode code 347 = .ok (.iconst 1, 1) := by decide +kernel
theorem dl_348 : decode code 348 = .ok (.iadd, 1) := by decide +kernel
theorem dl_349 : decode code 349 = .ok (.iaload, 1) := by decide +kernel
theorem dl_350 : decode code 350 = .ok (.aload_n 0, 1) := by decide +kernel
theorem dl_351 : decode code 351 = .ok (.iload_n 3, 1) := by decide +kernel
theorem dl_352 : decode code 352 = .ok (.iconst 2, 1) := by decide +kernel
theorem dl_353 : decode code 353 = .ok (.iadd, 1) := by decide +kernel
theorem dl_354 : decode code 354 = .ok (.iaload, 1) := by decide +kernel
theorem dl_355 : decode code 355 = .ok (.aload_n 0, 1) := by decide +kernel
theorem dl_356 : decode code 356 = .ok (.iload_n 3, 1) := by decide +kernel
theorem dl_357 : decode code 357 = .ok (.iconst 3, 1) := by decide +kernel
theorem dl_358 : decode code 358 = .ok (.iadd, 1) := by decide +kernel
theorem dl_359 : decode code 359 = .ok (.iaload, 1) := by decide +kernel
theorem dl_360 : decode code 360 = .ok (.invokevirtual 23, 3) := by decide +kernel
theorem dl_363 : decode code 363 = .ok (.aload_n 2, 1) := by decide +kernel
theorem dl_364 : decode code 364 = .ok (.aload_n 0, 1) := by decide +kernel
theorem dl_365 : decode code 365 = .ok (.iload_n 3, 1) := by decide +kernel
theorem dl_366 : decode code 366 = .ok (.iconst 1, 1) := by decide +kernel
theorem dl_367 : decode code 367 = .ok (.iadd, 1) := by decide +kernel
theorem dl_368 : decode code 368 = .ok (.iaload, 1) := by decide +kernel
theorem dl_369 : decode code 369 = .ok (.aload_n 0, 1) := by decide +kernel
theorem dl_370 : decode code 370 = .ok (.iload_n 3, 1) := by decide +kernel
theorem dl_371 : decode code 371 = .ok (.iconst 2, 1) := by decide +kernel
theorem dl_372 : decode code 372 = .ok (.iadd, 1) := by decide +kernel
theorem dl_373 : decode code 373 = .ok (.iaload, 1) := by decide +kernel
theorem dl_374 : decode code 374 = .ok (.aload_n 0, 1) := by decide +kernel
theorem dl_375 : decode code 375 = .ok (.iload_n 3, 1) := by decide +kernel
theorem dl_376 : decode code 376 = .ok (.iconst 3, 1) := by decide +kernel
theorem dl_377 : decode code 377 = .ok (.iadd, 1) := by decide +kernel
theorem dl_378 : decode code 378 = .ok (.iaload, 1) := by decide +kernel
theorem dl_379 : decode code 379 = .ok (.invokevirtual 27, 3) := by decide +kernel
theorem dl_382 : decode code 382 = .ok (.if_icmp .eq 1640, 3) := by decide +kernel
theorem dl_385 : decode code 385 = .ok (.iconst 0, 1) := by decide +kernel
theorem dl_386 : decode code 386 = .ok (.ireturn, 1) := by decide +kernel
theorem dl_387 : decode code 387 = .ok (.aload_n 1, 1) := by decide +kernel
theorem dl_388 : decode code 388 = .ok (.aload_n 0, 1) := by decide +kernel
theorem dl_389 : decode code 389 = .ok (.iload_n 3, 1) := by decide +kernel
theorem dl_390 : decode code 390 = .ok (.iconst 1, 1) := by decide +kernel
theorem dl_391 : decode code 391 = .ok (.iadd, 1) := by decide +kernel
theorem dl_392 : decode code 392 = .ok (.iaload, 1) := by decide +kernel
theorem dl_393 : decode code 393 = .ok (.aload_n 0, 1) := by decide +kernel
theorem dl_394 : decode code 394 = .ok (.iload_n 3, 1) := by decide +kernel
theorem dl_395 : decode code 395 = .ok (.iconst 2, 1) := by decide +kernel
theorem dl_396 : decode code 396 = .ok (.iadd, 1) := by decide +kernel
theorem dl_397 : decode code 397 = .ok (.iaload, 1) := by decide +kernel
theorem dl_398 : decode code 398 = .ok (.invokevirtual 28, 3) := by decide +kernel
theorem dl_401 : decode code 401 = .ok (.aload_n 2, 1) := by decide +kernel
theorem dl_402 : decode code 402 = .ok (.aload_n 0, 1) := by decide +kernel
theorem dl_403 : decode code 403 = .ok (.iload_n 3, 1) := by decide +kernel
theorem dl_404 : decode code 404 = .ok (.iconst 1, 1) := by decide +kernel
theorem dl_405 : decode code 405 = .ok (.iadd, 1) := by decide +kernel
theorem dl_406 : decode code 406 = .ok (.iaload, 1) := by decide +kernel
theorem dl_407 : decode code 407 = .ok (.aload_n 0, 1) := by decide +kernel
theorem dl_408 : decode code 408 = .ok (.iload_n 3, 1) := by decide +kernel
theorem dl_409 : decode code 409 = .ok (.iconst 2, 1) := by decide +kernel
theorem dl_410 : decode code 410 = .ok (.iadd, 1) := by decide +kernel
theorem dl_411 : decode code 411 = .ok (.iaload, 1) := by decide +kernel
theorem dl_412 : decode code 412 = .ok (.invokevirtual 32, 3) := by decide +kernel
theorem dl_415 : decode code 415 = .ok (.if_icmp .eq 1607, 3) := by decide +kernel
theorem dl_418 : decode code 418 = .ok (.iconst 0, 1) := by decide +kernel
theorem dl_419 : decode code 419 = .ok (.ireturn, 1) := by decide +kernel
theorem dl_420 : decode code 420 = .ok (.aload_n 1, 1) := by decide +kernel
theorem dl_421 : decode code 421 = .ok (.aload_n 0, 1) := by decide +kernel
theorem dl_422 : decode code 422 = .ok (.iload_n 3, 1) := by decide +kernel
theorem dl_423 : decode code 423 = .ok (.iconst 1, 1) := by decide +kernel
theorem dl_424 : decode code 424 = .ok (.iadd, 1) := by decide +kernel
theorem dl_425 : decode code 425 = .ok (.iaload, 1) := by decide +kernel
theorem dl_426 : decode code 426 = .ok (.aload_n 0, 1) := by decide +kernel
theorem dl_427 : decode code 427 = .ok (.iload_n 3, 1) := by decide +kernel
theorem dl_428 : decode code 428 = .ok (.iconst 2, 1) := by decide +kernel
theorem dl_429 : decode code 429 = .ok (.iadd, 1) := by decide +kernel
theorem dl_430 : decode code 430 = .ok (.iaload, 1) := by decide +kernel
theorem dl_431 : decode code 431 = .ok (.invokevirtual 33, 3) := by decide +kernel
theorem dl_434 : decode code 434 = .ok (.aload_n 2, 1) := by decide +kernel
theorem dl_435 : decode code 435 = .ok (.aload_n 0, 1) := by decide +kernel
theorem dl_436 : decode code 436 = .ok (.iload_n 3, 1) := by decide +kernel
theorem dl_437 : decode code 437 = .ok (.iconst 1, 1) := by decide +kernel
theorem dl_438 : decode code 438 = .ok (.iadd, 1) := by decide +kernel
theorem dl_439 : decode code 439 = .ok (.iaload, 1) := by decide +kernel
theorem dl_440 : decode code 440 = .ok (.aload_n 0, 1) := by decide +kernel
theorem dl_441 : decode code 441 = .ok (.iload_n 3, 1) := by decide +kernel
theorem dl_442 : decode code 442 = .ok (.iconst 2, 1) := by decide +kernel
theorem dl_443 : decode code 443 = .ok (.iadd, 1) := by decide +kernel
theorem dl_444 : decode code 444 = .ok (.iaload, 1) := by decide +kernel
theorem dl_445 : decode code 445 = .ok (.invokevirtual 36, 3) := by decide +kernel
theorem dl_448 : decode code 448 = .ok (.if_icmp .eq 1574, 3) := by decide +kernel
theorem dl_451 : decode code 451 = .ok (.iconst 0, 1) := by decide +kernel
theorem dl_452 : decode code 452 = .ok (.ireturn, 1) := by decide +kernel
theorem dl_453 : decode code 453 = .ok (.aload_n 1, 1) := by decide +kernel
theorem dl_454 : decode code 454 = .ok (.aload_n 0, 1) := by decide +kernel
theorem dl_455 : decode code 455 = .ok (.iload_n 3, 1) := by decide +kernel
theorem dl_456 : decode code 456 = .ok (.iconst 1, 1) := by decide +kernel
theorem dl_457 : decode code 457 = .ok (.iadd, 1) := by decide +kernel
theorem dl_458 : decode code 458 = .ok (.iaload, 1) := by decide +kernel
theorem dl_459 : decode code 459 = .ok (.aload_n 0, 1) := by decide +kernel
theorem dl_460 : decode code 460 = .ok (.iload_n 3, 1) := by decide +kernel
theorem dl_461 : decode code 461 = .ok (.iconst 2, 1) := by decide +kernel
theorem dl_462 : decode code 462 = .ok (.iadd, 1) := by decide +kernel
theorem dl_463 : decode code 463 = .ok (.iaload, 1) := by decide +kernel
theorem dl_464 : decode code 464 = .ok (.invokevirtual 37, 3) := by decide +kernel
theorem dl_467 : decode code 467 = .ok (.aload_n 2, 1) := by decide +kernel
theorem dl_468 : decode code 468 = .ok (.aload_n 0, 1) := by decide +kernel
theorem dl_469 : decode code 469 = .ok (.iload_n 3, 1) := by decide +kernel
theorem dl_470 : decode code 470 = .ok (.iconst 1, 1) := by decide +kernel
theorem dl_471 : decode code 471 = .ok (.iadd, 1) := by decide +kernel
theorem dl_472 : decode code 472 = .ok (.iaload, 1) := by decide +kernel
theorem dl_473 : decode code 473 = .ok (.aload_n 0, 1) := by decide +kernel
theorem dl_474 : decode code 474 = .ok (.iload_n 3, 1) := by decide +kernel
theorem dl_475 : decode code 475 = .ok (.iconst 2, 1) := by decide +kernel
theorem dl_476 : decode code 476 = .ok (.iadd, 1) := by decide +kernel
theorem dl_477 : decode code 477 = .ok (.iaload, 1) := by decide +kernel
theorem dl_478 : decode code 478 = .ok (.invokevirtual 40, 3) := by decide +kernel
theorem dl_481 : decode code 481 = .ok (.if_icmp .eq 1541, 3) := by decide +kernel
theorem dl_484 : decode code 484 = .ok (.iconst 0, 1) := by decide +kernel
theorem dl_485 : decode code 485 = .ok (.ireturn, 1) := by decide +kernel
theorem dl_486 : decode code 486 = .ok (.aload_n 1, 1) := by decide +kernel
theorem dl_487 : decode code 487 = .ok (.aload_n 0, 1) := by decide +kernel
theorem dl_488 : decode code 488 = .ok (.iload_n 3, 1) := by decide +kernel
theorem dl_489 : decode code 489 = .ok (.iconst 1, 1) := by decide +kernel
theorem dl_490 : decode code 490 = .ok (.iadd, 1) := by decide +kernel
theorem dl_491 : decode code 491 = .ok (.iaload, 1) := by decide +kernel
theorem dl_492 : decode code 492 = .ok (.aload_n 0, 1) := by decide +kernel
theorem dl_493 : decode code 493 = .ok (.iload_n 3, 1) := by decide +kernel
theorem dl_494 : decode code 494 = .ok (.iconst 2, 1) := by decide +kernel
theorem dl_495 : decode code 495 = .ok (.iadd, 1) := by decide +kernel
theorem dl_496 : decode code 496 = .ok (.iaload, 1) := by decide +kernel
theorem dl_497 : decode code 497 = .ok (.invokevirtual 41, 3) := by decide +kernel
theorem dl_500 : decode code 500 = .ok (.aload_n 2, 1) := by decide +kernel
theorem dl_501 : decode code 501 = .ok (.aload_n 0, 1) := by decide +kernel
theorem dl_502 : decode code 502 = .ok (.iload_n 3, 1) := by decide +kernel
theorem dl_503 : decode code 503 = .ok (.iconst 1, 1) := by decide +kernel
theorem dl_504 : decode code 504 = .ok (.iadd, 1) := by decide +kernel
theorem dl_505 : decode code 505 = .ok (.iaload, 1) := by decide +kernel
theorem dl_506 : decode code 506 = .ok (.aload_n 0, 1) := by decide +kernel
theorem dl_507 : decode code 507 = .ok (.iload_n 3, 1) := by decide +kernel
theorem dl_508 : decode code 508 = .ok (.iconst 2, 1) := by decide +kernel
theorem dl_509 : decode code 509 = .ok (.iadd, 1) := by decide +kernel
theorem dl_510 : decode code 510 = .ok (.iaload, 1) := by decide +kernel
theorem dl_511 : decode code 511 = .ok (.invokevirtual 44, 3) := by decide +kernel
theorem dl_514 : decode code 514 = .ok (.if_icmp .eq 1508, 3) := by decide +kernel
theorem dl_517 : decode code 517 = .ok (.iconst 0, 1) := by decide +kernel
theorem dl_518 : decode code 518 = .ok (.ireturn, 1) := by decide +kernel
theorem dl_519 : decode code 519 = .ok (.aload_n 1, 1) := by decide +kernel
theorem dl_520 : decode code 520 = .ok (.aload_n 0, 1) := by decide +kernel
theorem dl_521 : decode code 521 = .ok (.iload_n 3, 1) := by decide +kernel
theorem dl_522 : decode code 522 = .ok (.iconst 1, 1) := by decide +kernel
theorem dl_523 : decode code 523 = .ok (.iadd, 1) := by decide +kernel
theorem dl_524 : decode code 524 = .ok (.iaload, 1) := by decide +kernel
theorem dl_525 : decode code 525 = .ok (.invokevirtual 45, 3) := by decide +kernel
theorem dl_528 : decode code 528 = .ok (.aload_n 2, 1) := by decide +kernel
theorem dl_529 : decode code 529 = .ok (.aload_n 0, 1) := by decide +kernel
theorem dl_530 : decode code 530 = .ok (.iload_n 3, 1) := by decide +kernel
theorem dl_531 : decode code 531 = .ok (.iconst 1, 1) := by decide +kernel
theorem dl_532 : decode code 532 = .ok (.iadd, 1) := by decide +kernel
theorem dl_533 : decode code 533 = .ok (.iaload, 1) := by decide +kernel
theorem dl_534 : decode code 534 = .ok (.invokevirtual 49, 3) := by decide +kernel
theorem dl_537 : decode code 537 = .ok (.if_icmp .eq 1485, 3) := by decide +kernel
theorem dl_540 : decode code 540 = .ok (.iconst 0, 1) := by decide +kernel
theorem dl_541 : decode code 541 = .ok (.ireturn, 1) := by decide +kernel
theorem dl_542 : decode code 542 = .ok (.aload_n 1, 1) := by decide +kernel
theorem dl_543 : decode code 543 = .ok (.invokevirtual 50, 3) := by decide +kernel
theorem dl_546 : decode code 546 = .ok (.aload_n 2, 1) := by decide +kernel
theorem dl_547 : decode code 547 = .ok (.invokevirtual 54, 3) := by decide +kernel
theorem dl_550 : decode code 550 = .ok (.if_icmp .eq 1472, 3) := by decide +kernel
theorem dl_553 : decode code 553 = .ok (.iconst 0, 1) := by decide +kernel
theorem dl_554 : decode code 554 = .ok (.ireturn, 1) := by decide +kernel
theorem dl_555 : decode code 555 = .ok (.aload_n 1, 1) := by decide +kernel
theorem dl_556 : decode code 556 = .ok (.aload_n 0, 1) := by decide +kernel
theorem dl_557 : decode code 557 = .ok (.iload_n 3, 1) := by decide +kernel
theorem dl_558 : decode code 558 = .ok (.iconst 1, 1) := by decide +kernel
theorem dl_559 : decode code 559 = .ok (.iadd, 1) := by decide +kernel
theorem dl_560 : decode code 560 = .ok (.iaload, 1) := by decide +kernel
theorem dl_561 : decode code 561 = .ok (.aload_n 0, 1) := by decide +kernel
theorem dl_562 : decode code 562 = .ok (.iload_n 3, 1) := by decide +kernel
theorem dl_563 : decode code 563 = .ok (.iconst 2, 1) := by decide +kernel
theorem dl_564 : decode code 564 = .ok (.iadd, 1) := by decide +kernel
theorem dl_565 : decode code 565 = .ok (.iaload, 1) := by decide +kernel
theorem dl_566 : decode code 566 = .ok (.invokevirtual 55, 3) := by decide +kernel
theorem dl_569 : decode code 569 = .ok (.aload_n 2, 1) := by decide +kernel
theorem dl_570 : decode code 570 = .ok (.aload_n 0, 1) := by decide +kernel
theorem dl_571 : decode code 571 = .ok (.iload_n 3, 1) := by decide +kernel
theorem dl_572 : decode code 572 = .ok (.iconst 1, 1) := by decide +kernel
theorem dl_573 : decode code 573 = .ok (.iadd, 1) := by decide +kernel
theorem dl_574 : decode code 574 = .ok (.iaload, 1) := by decide +kernel
theorem dl_575 : decode code 575 = .ok (.aload_n 0, 1) := by decide +kernel
theorem dl_576 : decode code 576 = .ok (.iload_n 3, 1) := by decide +kernel
theorem dl_577 : decode code 577 = .ok (.iconst 2, 1) := by decide +kernel
theorem dl_578 : decode code 578 = .ok (.iadd, 1) := by decide +kernel
theorem dl_579 : decode code 579 = .ok (.iaload, 1) := by decide +kernel
theorem dl_580 : decode code 580 = .ok (.invokevirtual 58, 3) := by decide +kernel
theorem dl_583 : decode code 583 = .ok (.if_icmp .eq 1439, 3) := by decide +kernel
theorem dl_586 : decode code 586 = .ok (.iconst 0, 1) := by decide +kernel
theorem dl_587 : decode code 587 = .ok (.ireturn, 1) := by decide +kernel
theorem dl_588 : decode code 588 = .ok (.aload_n 1, 1) := by decide +kernel
theorem dl_589 : decode code 589 = .ok (.invokevirtual 59, 3) := by decide +kernel
theorem dl_592 : decode code 592 = .ok (.aload_n 2, 1) := by decide +kernel
theorem dl_593 : decode code 593 = .ok (.invokevirtual 62, 3) := by decide +kernel
theorem dl_596 : decode code 596 = .ok (.if_icmp .eq 1426, 3) := by decide +kernel
theorem dl_599 : decode code 599 = .ok (.iconst 0, 1) := by decide +kernel
theorem dl_600 : decode code 600 = .ok (.ireturn, 1) := by decide +kernel
theorem dl_601 : decode code 601 = .ok (.aload_n 1, 1) := by decide +kernel
theorem dl_602 : decode code 602 = .ok (.aload_n 0, 1) := by decide +kernel
theorem dl_603 : decode code 603 = .ok (.iload_n 3, 1) := by decide +kernel
theorem dl_604 : decode code 604 = .ok (.iconst 1, 1) := by decide +kernel
theorem dl_605 : decode code 605 = .ok (.iadd, 1) := by decide +kernel
theorem dl_606 : decode code 606 = .ok (.iaload, 1) := by decide +kernel
theorem dl_607 : decode code 607 = .ok (.invokevirtual 63, 3) := by decide +kernel
theorem dl_610 : decode code 610 = .ok (.aload_n 2, 1) := by decide +kernel
theorem dl_611 : decode code 611 = .ok (.aload_n 0, 1) := by decide +kernel
theorem dl_612 : decode code 612 = .ok (.iload_n 3, 1) := by decide +kernel
theorem dl_613 : decode code 613 = .ok (.iconst 1, 1) := by decide +kernel
theorem dl_614 : decode code 614 = .ok (.iadd, 1) := by decide +kernel
theorem dl_615 : decode code 615 = .ok (.iaload, 1) := by decide +kernel
theorem dl_616 : decode code 616 = .ok (.invokevirtual 66, 3) := by decide +kernel
theorem dl_619 : decode code 619 = .ok (.if_icmp .eq 1403, 3) := by decide +kernel
theorem dl_622 : decode code 622 = .ok (.iconst 0, 1) := by decide +kernel
theorem dl_623 : decode code 623 = .ok (.ireturn, 1) := by decide +kernel
theorem dl_624 : decode code 624 = .ok (.aload_n 1, 1) := by decide +kernel
theorem dl_625 : decode code 625 = .ok (.invokevirtual 67, 3) := by decide +kernel
theorem dl_628 : decode code 628 = .ok (.aload_n 2, 1) := by decide +kernel
theorem dl_629 : decode code 629 = .ok (.invokevirtual 70, 3) := by decide +kernel
theorem dl_632 : decode code 632 = .ok (.if_icmp .eq 1390, 3) := by decide +kernel
theorem dl_635 : decode code 635 = .ok (.iconst 0, 1) := by decide +kernel
theorem dl_636 : decode code 636 = .ok (.ireturn, 1) := by decide +kernel
theorem dl_637 : decode code 637 = .ok (.aload_n 1, 1) := by decide +kernel
theorem dl_638 : decode code 638 = .ok (.aload_n 0, 1) := by decide +kernel
theorem dl_639 : decode code 639 = .ok (.iload_n 3, 1) := by decide +kernel
theorem dl_640 : decode code 640 = .ok (.iconst 1, 1) := by decide +kernel
theorem dl_641 : decode code 641 = .ok (.iadd, 1) := by decide +kernel
theorem dl_642 : decode code 642 = .ok (.iaload, 1) := by decide +kernel
theorem dl_643 : decode code 643 = .ok (.invokevirtual 71, 3) := by decide +kernel
theorem dl_646 : decode code 646 = .ok (.aload_n 2, 1) := by decide +kernel
theorem dl_647 : decode code 647 = .ok (.aload_n 0, 1) := by decide +kernel
theorem dl_648 : decode code 648 = .ok (.iload_n 3, 1) := by decide +kernel
theorem dl_649 : decode code 649 = .ok (.iconst 1, 1) := by decide +kernel
theorem dl_650 : decode code 650 = .ok (.iadd, 1) := by decide +kernel
theorem dl_651 : decode code 651 = .ok (.iaload, 1) := by decide +kernel
theorem dl_652 : decode code 652 = .ok (.invokevirtual 74, 3) := by decide +kernel
theorem dl_655 : decode code 655 = .ok (.if_icmp .eq 1367, 3) := by decide +kernel
theorem dl_658 : decode code 658 = .ok (.iconst 0, 1) := by decide +kernel
theorem dl_659 : decode code 659 = .ok (.ireturn, 1) := by decide +kernel
theorem dl_660 : decode code 660 = .ok (.aload_n 1, 1) := by decide +kernel
theorem dl_661 : decode code 661 = .ok (.aload_n 0, 1) := by decide +kernel
theorem dl_662 : decode code 662 = .ok (.iload_n 3, 1) := by decide +kernel
theorem dl_663 : decode code 663 = .ok (.iconst 1, 1) := by decide +kernel
theorem dl_664 : decode code 664 = .ok (.iadd, 1) := by decide +kernel
theorem dl_665 : decode code 665 = .ok (.iaload, 1) := by decide +kernel
theorem dl_666 : decode code 666 = .ok (.aload_n 0, 1) := by decide +kernel
theorem dl_667 : decode code 667 = .ok (.iload_n 3, 1) := by decide +kernel
theorem dl_668 : decode code 668 = .ok (.iconst 2, 1) := by decide +kernel
theorem dl_669 : decode code 669 = .ok (.iadd, 1) := by decide +kernel
theorem dl_670 : decode code 670 = .ok (.iaload, 1) := by decide +kernel
theorem dl_671 : decode code 671 = .ok (.invokevirtual 75, 3) := by decide +kernel
theorem dl_674 : decode code 674 = .ok (.aload_n 2, 1) := by decide +kernel
theorem dl_675 : decode code 675 = .ok (.aload_n 0, 1) := by decide +kernel
theorem dl_676 : decode code 676 = .ok (.iload_n 3, 1) := by decide +kernel
theorem dl_677 : decode code 677 = .ok (.iconst 1, 1) := by decide +kernel
theorem dl_678 : decode code 678 = .ok (.iadd, 1) := by decide +kernel
theorem dl_679 : decode code 679 = .ok (.iaload, 1) := by decide +kernel
theorem dl_680 : decode code 680 = .ok (.aload_n 0, 1) := by decide +kernel
theorem dl_681 : decode code 681 = .ok (.iload_n 3, 1) := by decide +kernel
theorem dl_682 : decode code 682 = .ok (.iconst 2, 1) := by decide +kernel
theorem dl_683 : decode code 683 = .ok (.iadd, 1) := by decide +kernel
theorem dl_684 : decode code 684 = .ok (.iaload, 1) := by decide +kernel
theorem dl_685 : decode code 685 = .ok (.invokevirtual 78, 3) := by decide +kernel
theorem dl_688 : decode code 688 = .ok (.if_icmp .eq 1334, 3) := by decide +kernel
theorem dl_691 : decode code 691 = .ok (.iconst 0, 1) := by decide +kernel
theorem dl_692 : decode code 692 = .ok (.ireturn, 1) := by decide +kernel
theorem dl_693 : decode code 693 = .ok (.aload_n 1, 1) := by decide +kernel
theorem dl_694 : decode code 694 = .ok (.aload_n 0, 1) := by decide +kernel
theorem dl_695 : decode code 695 = .ok (.iload_n 3, 1) := by decide +kernel
theorem dl_696 : decode code 696 = .ok (.iconst 1, 1) := by decide +kernel
theorem dl_697 : decode code 697 = .ok (.iadd, 1) := by decide +kernel
theorem dl_698 : decode code 698 = .ok (.iaload, 1) := by decide +kernel
theorem dl_699 : decode code 699 = .ok (.aload_n 0, 1) := by decide +kernel
theorem dl_700 : decode code 700 = .ok (.iload_n 3, 1) := by decide +kernel
theorem dl_701 : decode code 701 = .ok (.iconst 2, 1) := by decide +kernel
theorem dl_702 : decode code 702 = .ok (.iadd, 1) := by decide +kernel
theorem dl_703 : decode code 703 = .ok (.iaload, 1) := by decide +kernel
theorem dl_704 : decode code 704 = .ok (.invokevirtual 79, 3) := by decide +kernel
theorem dl_707 : decode code 707 = .ok (.aload_n 2, 1) := by decide +kernel
theorem dl_708 : decode code 708 = .ok (.aload_n 0, 1) := by decide +kernel
theorem dl_709 : decode code 709 = .ok (.iload_n 3, 1) := by decide +kernel
theorem dl_710 : decode code 710 = .ok (.iconst 1, 1) := by decide +kernel
theorem dl_711 : decode code 711 = .ok (.iadd, 1) := by decide +kernel
theorem dl_712 : decode code 712 = .ok (.iaload, 1) := by decide +kernel
theorem dl_713 : decode code 713 = .ok (.aload_n 0, 1) := by decide +kernel
theorem dl_714 : decode code 714 = .ok (.iload_n 3, 1) := by decide +kernel
theorem dl_715 : decode code 715 = .ok (.iconst 2, 1) := by decide +kernel
theorem dl_716 : decode code 716 = .ok (.iadd, 1) := by decide +kernel
theorem dl_717 : decode code 717 = .ok (.iaload, 1) := by decide +kernel
theorem dl_718 : decode code 718 = .ok (.invokevirtual 82, 3) := by decide +kernel
theorem dl_721 : decode code 721 = .ok (.if_icmp .eq 1301, 3) := by decide +kernel
theorem dl_724 : decode code 724 = .ok (.iconst 0, 1) := by decide +kernel
theorem dl_725 : decode code 725 = .ok (.ireturn, 1) := by decide +kernel
theorem dl_726 : decode code 726 = .ok (.aload_n 1, 1) := by decide +kernel
theorem dl_727 : decode code 727 = .ok (.aload_n 0, 1) := by decide +kernel
theorem dl_728 : decode code 728 = .ok (.iload_n 3, 1) := by decide +kernel
theorem dl_729 : decode code 729 = .ok (.iconst 1, 1) := by decide +kernel
theorem dl_730 : decode code 730 = .ok (.iadd, 1) := by decide +kernel
theorem dl_731 : decode code 731 = .ok (.iaload, 1) := by decide +kernel
theorem dl_732 : decode code 732 = .ok (.aload_n 0, 1) := by decide +kernel
theorem dl_733 : decode code 733 = .ok (.iload_n 3, 1) := by decide +kernel
theorem dl_734 : decode code 734 = .ok (.iconst 2, 1) := by decide +kernel
theorem dl_735 : decode code 735 = .ok (.iadd, 1) := by decide +kernel
theorem dl_736 : decode code 736 = .ok (.iaload, 1) := by decide +kernel
theorem dl_737 : decode code 737 = .ok (.invokevirtual 83, 3) := by decide +kernel
theorem dl_740 : decode code 740 = .ok (.aload_n 2, 1) := by decide +kernel
theorem dl_741 : decode code 741 = .ok (.aload_n 0, 1) := by decide +kernel
theorem dl_742 : decode code 742 = .ok (.iload_n 3, 1) := by decide +kernel
theorem dl_743 : decode code 743 = .ok (.iconst 1, 1) := by decide +kernel
theorem dl_744 : decode code 744 = .ok (.iadd, 1) := by decide +kernel
theorem dl_745 : decode code 745 = .ok (.iaload, 1) := by decide +kernel
theorem dl_746 : decode code 746 = .ok (.aload_n 0, 1) := by decide +kernel
theorem dl_747 : decode code 747 = .ok (.iload_n 3, 1) := by decide +kernel
theorem dl_748 : decode code 748 = .ok (.iconst 2, 1) := by decide +kernel
theorem dl_749 : decode code 749 = .ok (.iadd, 1) := by decide +kernel
theorem dl_750 : decode code 750 = .ok (.iaload, 1) := by decide +kernel
theorem dl_751 : decode code 751 = .ok (.invokevirtual 86, 3) := by decide +kernel
theorem dl_754 : decode code 754 = .ok (.if_icmp .eq 1268, 3) := by decide +kernel
theorem dl_757 : decode code 757 = .ok (.iconst 0, 1) := by decide +kernel
theorem dl_758 : decode code 758 = .ok (.ireturn, 1) := by decide +kernel
theorem dl_759 : decode code 759 = .ok (.aload_n 1, 1) := by decide +kernel
theorem dl_760 : decode code 760 = .ok (.aload_n 0, 1) := by decide +kernel
theorem dl_761 : decode code 761 = .ok (.iload_n 3, 1) := by decide +kernel
theorem dl_762 : decode code 762 = .ok (.iconst 1, 1) := by decide +kernel
theorem dl_763 : decode code 763 = .ok (.iadd, 1) := by decide +kernel
theorem dl_764 : decode code 764 = .ok (.iaload, 1) := by decide +kernel
theorem dl_765 : decode code 765 = .ok (.aload_n 0, 1) := by decide +kernel
theorem dl_766 : decode code 766 = .ok (.iload_n 3, 1) := by decide +kernel
theorem dl_767 : decode code 767 = .ok (.iconst 2, 1) := by decide +kernel
theorem dl_768 : decode code 768 = .ok (.iadd, 1) := by decide +kernel
theorem dl_769 : decode code 769 = .ok (.iaload, 1) := by decide +kernel
theorem dl_770 : decode code 770 = .ok (.invokevirtual 87, 3) := by decide +kernel
theorem dl_773 : decode code 773 = .ok (.aload_n 2, 1) := by decide +kernel
theorem dl_774 : decode code 774 = .ok (.aload_n 0, 1) := by decide +kernel
theorem dl_775 : decode code 775 = .ok (.iload_n 3, 1) := by decide +kernel
theorem dl_776 : decode code 776 = .ok (.iconst 1, 1) := by decide +kernel
theorem dl_777 : decode code 777 = .ok (.iadd, 1) := by decide +kernel
theorem dl_778 : decode code 778 = .ok (.iaload, 1) := by decide +kernel
theorem dl_779 : decode code 779 = .ok (.aload_n 0, 1) := by decide +kernel
theorem dl_780 : decode code 780 = .ok (.iload_n 3, 1) := by decide +kernel
theorem dl_781 : decode code 781 = .ok (.iconst 2, 1) := by decide +kernel
theorem dl_782 : decode code 782 = .ok (.iadd, 1) := by decide +kernel
theorem dl_783 : decode code 783 = .ok (.iaload, 1) := by decide +kernel
theorem dl_784 : decode code 784 = .ok (.invokevirtual 90, 3) := by decide +kernel
theorem dl_787 : decode code 787 = .ok (.if_icmp .eq 1235, 3) := by decide +kernel
theorem dl_790 : decode code 790 = .ok (.iconst 0, 1) := by decide +kernel
theorem dl_791 : decode code 791 = .ok (.ireturn, 1) := by decide +kernel
theorem dl_792 : decode code 792 = .ok (.aload_n 1, 1) := by decide +kernel
theorem dl_793 : decode code 793 = .ok (.aload_n 0, 1) := by decide +kernel
theorem dl_794 : decode code 794 = .ok (.iload_n 3, 1) := by decide +kernel
theorem dl_795 : decode code 795 = .ok (.iconst 1, 1) := by decide +kernel
theorem dl_796 : decode code 796 = .ok (.iadd, 1) := by decide +kernel
theorem dl_797 : decode code 797 = .ok (.iaload, 1) := by decide +kernel
theorem dl_798 : decode code 798 = .ok (.invokevirtual 91, 3) := by decide +kernel
theorem dl_801 : decode code 801 = .ok (.aload_n 2, 1) := by decide +kernel
theorem dl_802 : decode code 802 = .ok (.aload_n 0, 1) := by decide +kernel
theorem dl_803 : decode code 803 = .ok (.iload_n 3, 1) := by decide +kernel
theorem dl_804 : decode code 804 = .ok (.iconst 1, 1) := by decide +kernel
theorem dl_805 : decode code 805 = .ok (.iadd, 1) := by decide +kernel
theorem dl_806 : decode code 806 = .ok (.iaload, 1) := by decide +kernel
theorem dl_807 : decode code 807 = .ok (.invokevirtual 94, 3) := by decide +kernel
theorem dl_810 : decode code 810 = .ok (.if_icmp .eq 1212, 3) := by decide +kernel
theorem dl_813 : decode code 813 = .ok (.iconst 0, 1) := by decide +kernel
theorem dl_814 : decode code 814 = .ok (.ireturn, 1) := by decide +kernel
theorem dl_815 : decode code 815 = .ok (.aload_n 1, 1) := by decide +kernel
theorem dl_816 : decode code 816 = .ok (.aload_n 0, 1) := by decide +kernel
theorem dl_817 : decode code 817 = .ok (.iload_n 3, 1) := by decide +kernel
theorem dl_818 : decode code 818 = .ok (.iconst 1, 1) := by decide +kernel
theorem dl_819 : decode code 819 = .ok (.iadd, 1) := by decide +kernel
theorem dl_820 : decode code 820 = .ok (.iaload, 1) := by decide +kernel
theorem dl_821 : decode code 821 = .ok (.aload_n 0, 1) := by decide +kernel
theorem dl_822 : decode code 822 = .ok (.iload_n 3, 1) := by decide +kernel
theorem dl_823 : decode code 823 = .ok (.iconst 2, 1) := by decide +kernel
theorem dl_824 : decode code 824 = .ok (.iadd, 1) := by decide +kernel
theorem dl_825 : decode code 825 = .ok (.iaload, 1) := by decide +kernel
theorem dl_826 : decode code 826 = .ok (.aload_n 0, 1) := by decide +kernel
theorem dl_827 : decode code 827 = .ok (.iload_n 3, 1) := by decide +kernel
theorem dl_828 : decode code 828 = .ok (.iconst 3, 1) := by decide +kernel
theorem dl_829 : decode code 829 = .ok (.iadd, 1) := by decide +kernel
theorem dl_830 : decode code 830 = .ok (.iaload, 1) := by decide +kernel
theorem dl_831 : decode code 831 = .ok (.invokevirtual 95, 3) := by decide +kernel
theorem dl_834 : decode code 834 = .ok (.aload_n 2, 1) := by decide +kernel
theorem dl_835 : decode code 835 = .ok (.aload_n 0, 1) := by decide +kernel
theorem dl_836 : decode code 836 = .ok (.iload_n 3, 1) := by decide +kernel
theorem dl_837 : decode code 837 = .ok (.iconst 1, 1) := by decide +kernel
theorem dl_838 : decode code 838 = .ok (.iadd, 1) := by decide +kernel
theorem dl_839 : decode code 839 = .ok (.iaload, 1) := by decide +kernel
theorem dl_840 : decode code 840 = .ok (.aload_n 0, 1) := by decide +kernel
theorem dl_841 : decode code 841 = .ok (.iload_n 3, 1) := by decide +kernel
theorem dl_842 : decode code 842 = .ok (.iconst 2, 1) := by decide +kernel
theorem dl_843 : decode code 843 = .ok (.iadd, 1) := by decide +kernel
theorem dl_844 : decode code 844 = .ok (.iaload, 1) := by decide +kernel
theorem dl_845 : decode code 845 = .ok (.aload_n 0, 1) := by decide +kernel
theorem dl_846 : decode code 846 = .ok (.iload_n 3, 1) := by decide +kernel
theorem dl_847 : decode code 847 = .ok (.iconst 3, 1) := by decide +kernel
theorem dl_848 : decode code 848 = .ok (.iadd, 1) := by decide +kernel
theorem dl_849 : decode code 849 = .ok (.iaload, 1) := by decide +kernel
theorem dl_850 : decode code 850 = .ok (.invokevirtual 99, 3) := by decide +kernel
theorem dl_853 : decode code 853 = .ok (.if_icmp .eq 1169, 3) := by decide +kernel
theorem dl_856 : decode code 856 = .ok (.iconst 0, 1) := by decide +kernel
theorem dl_857 : decode code 857 = .ok (.ireturn, 1) := by decide +kernel
theorem dl_858 : decode code 858 = .ok (.aload_n 1, 1) := by decide +kernel
theorem dl_859 : decode code 859 = .ok (.aload_n 0, 1) := by decide +kernel
theorem dl_860 : decode code 860 = .ok (.iload_n 3, 1) := by decide +kernel
theorem dl_861 : decode code 861 = .ok (.iconst 1, 1) := by decide +kernel
theorem dl_862 : decode code 862 = .ok (.iadd, 1) := by decide +kernel
theorem dl_863 : decode code 863 = .ok (.iaload, 1) := by decide +kernel
theorem dl_864 : decode code 864 = .ok (.aload_n 0, 1) := by decide +kernel
theorem dl_865 : decode code 865 = .ok (.iload_n 3, 1) := by decide +kernel
theorem dl_866 : decode code 866 = .ok (.iconst 2, 1) := by decide +kernel
theorem dl_867 : decode code 867 = .ok (.iadd, 1) := by decide +kernel
theorem dl_868 : decode code 868 = .ok (.iaload, 1) := by decide +kernel
theorem dl_869 : decode code 869 = .ok (.invokevirtual 100, 3) := by decide +kernel
theorem dl_872 : decode code 872 = .ok (.aload_n 2, 1) := by decide +kernel
theorem dl_873 : decode code 873 = .ok (.aload_n 0, 1) := by decide +kernel
theorem dl_874 : decode code 874 = .ok (.iload_n 3, 1) := by decide +kernel
theorem dl_875 : decode code 875 = .ok (.iconst 1, 1) := by decide +kernel
theorem dl_876 : decode code 876 = .ok (.iadd, 1) := by decide +kernel
theorem dl_877 : decode code 877 = .ok (.iaload, 1) := by decide +kernel
theorem dl_878 : decode code 878 = .ok (.aload_n 0, 1) := by decide +kernel
theorem dl_879 : decode code 879 = .ok (.iload_n 3, 1) := by decide +kernel
theorem dl_880 : decode code 880 = .ok (.iconst 2, 1) := by decide +kernel
theorem dl_881 : decode code 881 = .ok (.iadd, 1) := by decide +kernel
theorem dl_882 : decode code 882 = .ok (.iaload, 1) := by decide +kernel
theorem dl_883 : decode code 883 = .ok (.invokevirtual 103, 3) := by decide +kernel
theorem dl_886 : decode code 886 = .ok (.if_icmp .eq 1136, 3) := by decide +kernel
theorem dl_889 : decode code 889 = .ok (.iconst 0, 1) := by decide +kernel
theorem dl_890 : decode code 890 = .ok (.ireturn, 1) := by decide +kernel
theorem dl_891 : decode code 891 = .ok (.aload_n 1, 1) := by decide +kernel
theorem dl_892 : decode code 892 = .ok (.aload_n 0, 1) := by decide +kernel
theorem dl_893 : decode code 893 = .ok (.iload_n 3, 1) := by decide +kernel
theorem dl_894 : decode code 894 = .ok (.iconst 1, 1) := by decide +kernel
theorem dl_895 : decode code 895 = .ok (.iadd, 1) := by decide +kernel
theorem dl_896 : decode code 896 = .ok (.iaload, 1) := by decide +kernel
theorem dl_897 : decode code 897 = .ok (.aload_n 0, 1) := by decide +kernel
theorem dl_898 : decode code 898 = .ok (.iload_n 3, 1) := by decide +kernel
theorem dl_899 : decode code 899 = .ok (.iconst 2, 1) := by decide +kernel
theorem dl_900 : decode code 900 = .ok (.iadd, 1) := by decide +kernel
theorem dl_901 : decode code 901 = .ok (.iaload, 1) := by decide +kernel
theorem dl_902 : decode code 902 = .ok (.invokevirtual 104, 3) := by decide +kernel
theorem dl_905 : decode code 905 = .ok (.aload_n 2, 1) := by decide +kernel
theorem dl_906 : decode code 906 = .ok (.aload_n 0, 1) := by decide +kernel
theorem dl_907 : decode code 907 = .ok (.iload_n 3, 1) := by decide +kernel
theorem dl_908 : decode code 908 = .ok (.iconst 1, 1) := by decide +kernel
theorem dl_909 : decode code 909 = .ok (.iadd, 1) := by decide +kernel
theorem dl_910 : decode code 910 = .ok (.iaload, 1) := by decide +kernel
theorem dl_911 : decode code 911 = .ok (.aload_n 0, 1) := by decide +kernel
theorem dl_912 : decode code 912 = .ok (.iload_n 3, 1) := by decide +kernel
theorem dl_913 : decode code 913 = .ok (.iconst 2, 1) := by decide +kernel
theorem dl_914 : decode code 914 = .ok (.iadd, 1) := by decide +kernel
theorem dl_915 : decode code 915 = .ok (.iaload, 1) := by decide +kernel
theorem dl_916 : decode code 916 = .ok (.invokevirtual 107, 3) := by decide +kernel
theorem dl_919 : decode code 919 = .ok (.if_icmp .eq 1103, 3) := by decide +kernel
theorem dl_922 : decode code 922 = .ok (.iconst 0, 1) := by decide +kernel
theorem dl_923 : decode code 923 = .ok (.ireturn, 1) := by decide +kernel
theorem dl_924 : decode code 924 = .ok (.aload_n 1, 1) := by decide +kernel
theorem dl_925 : decode code 925 = .ok (.aload_n 0, 1) := by decide +kernel
theorem dl_926 : decode code 926 = .ok (.iload_n 3, 1) := by decide +kernel
theorem dl_927 : decode code 927 = .ok (.iconst 1, 1) := by decide +kernel
theorem dl_928 : decode code 928 = .ok (.iadd, 1) := by decide +kernel
theorem dl_929 : decode code 929 = .ok (.iaload, 1) := by decide +kernel
theorem dl_930 : decode code 930 = .ok (.aload_n 0, 1) := by decide +kernel
theorem dl_931 : decode code 931 = .ok (.iload_n 3, 1) := by decide +kernel
theorem dl_932 : decode code 932 = .ok (.iconst 2, 1) := by decide +kernel
theorem dl_933 : decode code 933 = .ok (.iadd, 1) := by decide +kernel
theorem dl_934 : decode code 934 = .ok (.iaload, 1) := by decide +kernel
theorem dl_935 : decode code 935 = .ok (.invokevirtual 108, 3) := by decide +kernel
theorem dl_938 : decode code 938 = .ok (.aload_n 2, 1) := by decide +kernel
theorem dl_939 : decode code 939 = .ok (.aload_n 0, 1) := by decide +kernel
theorem dl_940 : decode code 940 = .ok (.iload_n 3, 1) := by decide +kernel
theorem dl_941 : decode code 941 = .ok (.iconst 1, 1) := by decide +kernel
theorem dl_942 : decode code 942 = .ok (.iadd, 1) := by decide +kernel
theorem dl_943 : decode code 943 = .ok (.iaload, 1) := by decide +kernel
theorem dl_944 : decode code 944 = .ok (.aload_n 0, 1) := by decide +kernel
theorem dl_945 : decode code 945 = .ok (.iload_n 3, 1) := by decide +kernel
theorem dl_946 : decode code 946 = .ok (.iconst 2, 1) := by decide +kernel
theorem dl_947 : decode code 947 = .ok (.iadd, 1) := by decide +kernel
theorem dl_948 : decode code 948 = .ok (.iaload, 1) := by decide +kernel
theorem dl_949 : decode code 949 = .ok (.invokevirtual 111, 3) := by decide +kernel
theorem dl_952 : decode code 952 = .ok (.if_icmp .eq 1070, 3) := by decide +kernel
theorem dl_955 : decode code 955 = .ok (.iconst 0, 1) := by decide +kernel
theorem dl_956 : decode code 956 = .ok (.ireturn, 1) := by decide +kernel
theorem dl_957 : decode code 957 = .ok (.aload_n 1, 1) := by decide +kernel
theorem dl_958 : decode code 958 = .ok (.aload_n 0, 1) := by decide +kernel
theorem dl_959 : decode code 959 = .ok (.iload_n 3, 1) := by decide +kernel
theorem dl_960 : decode code 960 = .ok (.iconst 1, 1) := by decide +kernel
theorem dl_961 : decode code 961 = .ok (.iadd, 1) := by decide +kernel
theorem dl_962 : decode code 962 = .ok (.iaload, 1) := by decide +kernel
theorem dl_963 : decode code 963 = .ok (.aload_n 0, 1) := by decide +kernel
theorem dl_964 : decode code 964 = .ok (.iload_n 3, 1) := by decide +kernel
theorem dl_965 : decode code 965 = .ok (.iconst 2, 1) := by decide +kernel
theorem dl_966 : decode code 966 = .ok (.iadd, 1) := by decide +kernel
theorem dl_967 : decode code 967 = .ok (.iaload, 1) := by decide +kernel
theorem dl_968 : decode code 968 = .ok (.invokevirtual 112, 3) := by decide +kernel
theorem dl_971 : decode code 971 = .ok (.aload_n 2, 1) := by decide +kernel
theorem dl_972 : decode code 972 = .ok (.aload_n 0, 1) := by decide +kernel
theorem dl_973 : decode code 973 = .ok (.iload_n 3, 1) := by decide +kernel
theorem dl_974 : decode code 974 = .ok (.iconst 1, 1) := by decide +kernel
theorem dl_975 : decode code 975 = .ok (.iadd, 1) := by decide +kernel
theorem dl_976 : decode code 976 = .ok (.iaload, 1) := by decide +kernel
theorem dl_977 : decode code 977 = .ok (.aload_n 0, 1) := by decide +kernel
theorem dl_978 : decode code 978 = .ok (.iload_n 3, 1) := by decide +kernel
theorem dl_979 : decode code 979 = .ok (.iconst 2, 1) := by decide +kernel
theorem dl_980 : decode code 980 = .ok (.iadd, 1) := by decide +kernel
theorem dl_981 : decode code 981 = .ok (.iaload, 1) := by decide +kernel
theorem dl_982 : decode code 982 = .ok (.invokevirtual 115, 3) := by decide +kernel
theorem dl_985 : decode code 985 = .ok (.if_icmp .eq 1037, 3) := by decide +kernel
theorem dl_988 : decode code 988 = .ok (.iconst 0, 1) := by decide +kernel
theorem dl_989 : decode code 989 = .ok (.ireturn, 1) := by decide +kernel
theorem dl_990 : decode code 990 = .ok (.aload_n 1, 1) := by decide +kernel
theorem dl_991 : decode code 991 = .ok (.aload_n 0, 1) := by decide +kernel
theorem dl_992 : decode code 992 = .ok (.iload_n 3, 1) := by decide +kernel
theorem dl_993 : decode code 993 = .ok (.iconst 1, 1) := by decide +kernel
theorem dl_994 : decode code 994 = .ok (.iadd, 1) := by decide +kernel
theorem dl_995 : decode code 995 = .ok (.iaload, 1) := by decide +kernel
theorem dl_996 : decode code 996 = .ok (.aload_n 0, 1) := by decide +kernel
theorem dl_997 : decode code 997 = .ok (.iload_n 3, 1) := by decide +kernel
theorem dl_998 : decode code 998 = .ok (.iconst 2, 1) := by decide +kernel
theorem dl_999 : decode code 999 = .ok (.iadd, 1) := by decide +kernel
theorem dl_1000 : decode code 1000 = .ok (.iaload, 1) := by decide +kernel
theorem dl_1001 : decode code 1001 = .ok (.aload_n 0, 1) := by decide +kernel
theorem dl_1002 : decode code 1002 = .ok (.iload_n 3, 1) := by decide +kernel
theorem dl_1003 : decode code 1003 = .ok (.iconst 3, 1) := by decide +kernel
theorem dl_1004 : decode code 1004 = .ok (.iadd, 1) := by decide +kernel
theorem dl_1005 : decode code 1005 = .ok (.iaload, 1) := by decide +kernel
theorem dl_1006 : decode code 1006 = .ok (.aload_n 0, 1) := by decide +kernel
theorem dl_1007 : decode code 1007 = .ok (.iload_n 3, 1) := by decide +kernel
theorem dl_1008 : decode code 1008 = .ok (.iconst 4, 1) := by decide +kernel
theorem dl_1009 : decode code 1009 = .ok (.iadd, 1) := by decide +kernel
theorem dl_1010 : decode code 1010 = .ok (.iaload, 1) := by decide +kernel
theorem dl_1011 : decode code 1011 = .ok (.invokevirtual 116, 3) := by decide +kernel
theorem dl_1014 : decode code 1014 = .ok (.aload_n 2, 1) := by decide +kernel
theorem dl_1015 : decode code 1015 = .ok (.aload_n 0, 1) := by decide +kernel
theorem dl_1016 : decode code 1016 = .ok (.iload_n 3, 1) := by decide +kernel
theorem dl_1017 : decode code 1017 = .ok (.iconst 1, 1) := by decide +kernel
theorem dl_1018 : decode code 1018 = .ok (.iadd, 1) := by decide +kernel
theorem dl_1019 : decode code 1019 = .ok (.iaload, 1) := by decide +kernel
theorem dl_1020 : decode code 1020 = .ok (.aload_n 0, 1) := by decide +kernel
theorem dl_1021 : decode code 1021 = .ok (.iload_n 3, 1) := by decide +kernel
theorem dl_1022 : decode code 1022 = .ok (.iconst 2, 1) := by decide +kernel
theorem dl_1023 : decode code 1023 = .ok (.iadd, 1) := by decide +kernel
theorem dl_1024 : decode code 1024 = .ok (.iaload, 1) := by decide +kernel
theorem dl_1025 : decode code 1025 = .ok (.aload_n 0, 1) := by decide +kernel
theorem dl_1026 : decode code 1026 = .ok (.iload_n 3, 1) := by decide +kernel
theorem dl_1027 : decode code 1027 = .ok (.iconst 3, 1) := by decide +kernel
theorem dl_1028 : decode code 1028 = .ok (.iadd, 1) := by decide +kernel
theorem dl_1029 : decode code 1029 = .ok (.iaload, 1) := by decide +kernel
theorem dl_1030 : decode code 1030 = .ok (.aload_n 0, 1) := by decide +kernel
theorem dl_1031 : decode code 1031 = .ok (.iload_n 3, 1) := by decide +kernel
theorem dl_1032 : decode code 1032 = .ok (.iconst 4, 1) := by decide +kernel
theorem dl_1033 : decode code 1033 = .ok (.iadd, 1) := by decide +kernel
theorem dl_1034 : decode code 1034 = .ok (.iaload, 1) := by decide +kernel
theorem dl_1035 : decode code 1035 = .ok (.invokevirtual 120, 3) := by decide +kernel
theorem dl_1038 : decode code 1038 = .ok (.if_icmp .eq 984, 3) := by decide +kernel
theorem dl_1041 : decode code 1041 = .ok (.iconst 0, 1) := by decide +kernel
theorem dl_1042 : decode code 1042 = .ok (.ireturn, 1) := by decide +kernel
theorem dl_1043 : decode code 1043 = .ok (.aload_n 1, 1) := by decide +kernel
theorem dl_1044 : decode code 1044 = .ok (.aload_n 0, 1) := by decide +kernel
theorem dl_1045 : decode code 1045 = .ok (.iload_n 3, 1) := by decide +kernel
theorem dl_1046 : decode code 1046 = .ok (.iconst 1, 1) := by decide +kernel
theorem dl_1047 : decode code 1047 = .ok (.iadd, 1) := by decide +kernel
theorem dl_1048 : decode code 1048 = .ok (.iaload, 1) := by decide +kernel
theorem dl_1049 : decode code 1049 = .ok (.aload_n 0, 1) := by decide +kernel
theorem dl_1050 : decode code 1050 = .ok (.iload_n 3, 1) := by decide +kernel
theorem dl_1051 : decode code 1051 = .ok (.iconst 2, 1) := by decide +kernel
theorem dl_1052 : decode code 1052 = .ok (.iadd, 1) := by decide +kernel
theorem dl_1053 : decode code 1053 = .ok (.iaload, 1) := by decide +kernel
theorem dl_1054 : decode code 1054 = .ok (.invokevirtual 121, 3) := by decide +kernel
theorem dl_1057 : decode code 1057 = .ok (.aload_n 2, 1) := by decide +kernel
theorem dl_1058 : decode code 1058 = .ok (.aload_n 0, 1) := by decide +kernel
theorem dl_1059 : decode code 1059 = .ok (.iload_n 3, 1) := by decide +kernel
theorem dl_1060 : decode code 1060 = .ok (.iconst 1, 1) := by decide +kernel
theorem dl_1061 : decode code 1061 = .ok (.iadd, 1) := by decide +kernel
theorem dl_1062 : decode code 1062 = .ok (.iaload, 1) := by decide +kernel
theorem dl_1063 : decode code 1063 = .ok (.aload_n 0, 1) := by decide +kernel
theorem dl_1064 : decode code 1064 = .ok (.iload_n 3, 1) := by decide +kernel
theorem dl_1065 : decode code 1065 = .ok (.iconst 2, 1) := by decide +kernel
theorem dl_1066 : decode code 1066 = .ok (.iadd, 1) := by decide +kernel
theorem dl_1067 : decode code 1067 = .ok (.iaload, 1) := by decide +kernel
theorem dl_1068 : decode code 1068 = .ok (.invokevirtual 124, 3) := by decide +kernel
theorem dl_1071 : decode code 1071 = .ok (.if_icmp .eq 951, 3) := by decide +kernel
theorem dl_1074 : decode code 1074 = .ok (.iconst 0, 1) := by decide +kernel
theorem dl_1075 : decode code 1075 = .ok (.ireturn, 1) := by decide +kernel
theorem dl_1076 : decode code 1076 = .ok (.aload_n 1, 1) := by decide +kernel
theorem dl_1077 : decode code 1077 = .ok (.aload_n 0, 1) := by decide +kernel
theorem dl_1078 : decode code 1078 = .ok (.iload_n 3, 1) := by decide +kernel
theorem dl_1079 : decode code 1079 = .ok (.iconst 1, 1) := by decide +kernel
theorem dl_1080 : decode code 1080 = .ok (.iadd, 1) := by decide +kernel
theorem dl_1081 : decode code 1081 = .ok (.iaload, 1) := by decide +kernel
theorem dl_1082 : decode code 1082 = .ok (.aload_n 0, 1) := by decide +kernel
theorem dl_1083 : decode code 1083 = .ok (.iload_n 3, 1) := by decide +kernel
theorem dl_1084 : decode code 1084 = .ok (.iconst 2, 1) := by decide +kernel
theorem dl_1085 : decode code 1085 = .ok (.iadd, 1) := by decide +kernel
theorem dl_1086 : decode code 1086 = .ok (.iaload, 1) := by decide +kernel
theorem dl_1087 : decode code 1087 = .ok (.invokevirtual 125, 3) := by decide +kernel
theorem dl_1090 : decode code 1090 = .ok (.aload_n 2, 1) := by decide +kernel
theorem dl_1091 : decode code 1091 = .ok (.aload_n 0, 1) := by decide +kernel
theorem dl_1092 : decode code 1092 = .ok (.iload_n 3, 1) := by decide +kernel
theorem dl_1093 : decode code 1093 = .ok (.iconst 1, 1) := by decide +kernel
theorem dl_1094 : decode code 1094 = .ok (.iadd, 1) := by decide +kernel
theorem dl_1095 : decode code 1095 = .ok (.iaload, 1) := by decide +kernel
theorem dl_1096 : decode code 1096 = .ok (.aload_n 0, 1) := by decide +kernel
theorem dl_1097 : decode code 1097 = .ok (.iload_n 3, 1) := by decide +kernel
theorem dl_1098 : decode code 1098 = .ok (.iconst 2, 1) := by decide +kernel
theorem dl_1099 : decode code 1099 = .ok (.iadd, 1) := by decide +kernel
theorem dl_1100 : decode code 1100 = .ok (.iaload, 1) := by decide +kernel
theorem dl_1101 : decode code 1101 = .ok (.invokevirtual 129, 3) := by decide +kernel
theorem dl_1104 : decode code 1104 = .ok (.lcmp, 1) := by decide +kernel
theorem dl_1105 : decode code 1105 = .ok (.ifCond .eq 917, 3) := by decide +kernel
theorem dl_1108 : decode code 1108 = .ok (.iconst 0, 1) := by decide +kernel
theorem dl_1109 : decode code 1109 = .ok (.ireturn, 1) := by decide +kernel
theorem dl_1110 : decode code 1110 = .ok (.aload_n 1, 1) := by decide +kernel
theorem dl_1111 : decode code 1111 = .ok (.aload_n 0, 1) := by decide +kernel
theorem dl_1112 : decode code 1112 = .ok (.iload_n 3, 1) := by decide +kernel
theorem dl_1113 : decode code 1113 = .ok (.iconst 1, 1) := by decide +kernel
theorem dl_1114 : decode code 1114 = .ok (.iadd, 1) := by decide +kernel
theorem dl_1115 : decode code 1115 = .ok (.iaload, 1) := by decide +kernel
theorem dl_1116 : decode code 1116 = .ok (.aload_n 0, 1) := by decide +kernel
theorem dl_1117 : decode code 1117 = .ok (.iload_n 3, 1) := by decide +kernel
theorem dl_1118 : decode code 1118 = .ok (.iconst 2, 1) := by decide +kernel
theorem dl_1119 : decode code 1119 = .ok (.iadd, 1) := by decide +kernel
theorem dl_1120 : decode code 1120 = .ok (.iaload, 1) := by decide +kernel
theorem dl_1121 : decode code 1121 = .ok (.invokevirtual 130, 3) := by decide +kernel
theorem dl_1124 : decode code 1124 = .ok (.aload_n 2, 1) := by decide +kernel
theorem dl_1125 : decode code 1125 = .ok (.aload_n 0, 1) := by decide +kernel
theorem dl_1126 : decode code 1126 = .ok (.iload_n 3, 1) := by decide +kernel
theorem dl_1127 : decode code 1127 = .ok (.iconst 1, 1) := by decide +kernel
theorem dl_1128 : decode code 1128 = .ok (.iadd, 1) := by decide +kernel
theorem dl_1129 : decode code 1129 = .ok (.iaload, 1) := by decide +kernel
theorem dl_1130 : decode code 1130 = .ok (.aload_n 0, 1) := by decide +kernel
theorem dl_1131 : decode code 1131 = .ok (.iload_n 3, 1) := by decide +kernel
theorem dl_1132 : decode code 1132 = .ok (.iconst 2, 1) := by decide +kernel
theorem dl_1133 : decode code 1133 = .ok (.iadd, 1) := by decide +kernel
theorem dl_1134 : decode code 1134 = .ok (.iaload, 1) := by decide +kernel
theorem dl_1135 : decode code 1135 = .ok (.invokevirtual 133, 3) := by decide +kernel
theorem dl_1138 : decode code 1138 = .ok (.if_icmp .eq 884, 3) := by decide +kernel
theorem dl_1141 : decode code 1141 = .ok (.iconst 0, 1) := by decide +kernel
theorem dl_1142 : decode code 1142 = .ok (.ireturn, 1) := by decide +kernel
theorem dl_1143 : decode code 1143 = .ok (.aload_n 1, 1) := by decide +kernel
theorem dl_1144 : decode code 1144 = .ok (.aload_n 0, 1) := by decide +kernel
theorem dl_1145 : decode code 1145 = .ok (.iload_n 3, 1) := by decide +kernel
theorem dl_1146 : decode code 1146 = .ok (.iconst 1, 1) := by decide +kernel
theorem dl_1147 : decode code 1147 = .ok (.iadd, 1) := by decide +kernel
theorem dl_1148 : decode code 1148 = .ok (.iaload, 1) := by decide +kernel
theorem dl_1149 : decode code 1149 = .ok (.aload_n 0, 1) := by decide +kernel
theorem dl_1150 : decode code 1150 = .ok (.iload_n 3, 1) := by decide +kernel
theorem dl_1151 : decode code 1151 = .ok (.iconst 2, 1) := by decide +kernel
theorem dl_1152 : decode code 1152 = .ok (.iadd, 1) := by decide +kernel
theorem dl_1153 : decode code 1153 = .ok (.iaload, 1) := by decide +kernel
theorem dl_1154 : decode code 1154 = .ok (.invokevirtual 134, 3) := by decide +kernel
theorem dl_1157 : decode code 1157 = .ok (.aload_n 2, 1) := by decide +kernel
theorem dl_1158 : decode code 1158 = .ok (.aload_n 0, 1) := by decide +kernel
theorem dl_1159 : decode code 1159 = .ok (.iload_n 3, 1) := by decide +kernel
theorem dl_1160 : decode code 1160 = .ok (.iconst 1, 1) := by decide +kernel
theorem dl_1161 : decode code 1161 = .ok (.iadd, 1) := by decide +kernel
theorem dl_1162 : decode code 1162 = .ok (.iaload, 1) := by decide +kernel
theorem dl_1163 : decode code 1163 = .ok (.aload_n 0, 1) := by decide +kernel
theorem dl_1164 : decode code 1164 = .ok (.iload_n 3, 1) := by decide +kernel
theorem dl_1165 : decode code 1165 = .ok (.iconst 2, 1) := by decide +kernel
theorem dl_1166 : decode code 1166 = .ok (.iadd, 1) := by decide +kernel
theorem dl_1167 : decode code 1167 = .ok (.iaload, 1) := by decide +kernel
theorem dl_1168 : decode code 1168 = .ok (.invokevirtual 137, 3) := by decide +kernel
theorem dl_1171 : decode code 1171 = .ok (.if_icmp .eq 851, 3) := by decide +kernel
theorem dl_1174 : decode code 1174 = .ok (.iconst 0, 1) := by decide +kernel
theorem dl_1175 : decode code 1175 = .ok (.ireturn, 1) := by decide +kernel
theorem dl_1176 : decode code 1176 = .ok (.aload_n 1, 1) := by decide +kernel
theorem dl_1177 : decode code 1177 = .ok (.aload_n 0, 1) := by decide +kernel
theorem dl_1178 : decode code 1178 = .ok (.iload_n 3, 1) := by decide +kernel
theorem dl_1179 : decode code 1179 = .ok (.iconst 1, 1) := by decide +kernel
theorem dl_1180 : decode code 1180 = .ok (.iadd, 1) := by decide +kernel
theorem dl_1181 : decode code 1181 = .ok (.iaload, 1) := by decide +kernel
theorem dl_1182 : decode code 1182 = .ok (.invokevirtual 138, 3) := by decide +kernel
theorem dl_1185 : decode code 1185 = .ok (.aload_n 2, 1) := by decide +kernel
theorem dl_1186 : decode code 1186 = .ok (.aload_n 0, 1) := by decide +kernel
theorem dl_1187 : decode code 1187 = .ok (.iload_n 3, 1) := by decide +kernel
theorem dl_1188 : decode code 1188 = .ok (.iconst 1, 1) := by decide +kernel
theorem dl_1189 : decode code 1189 = .ok (.iadd, 1) := by decide +kernel
theorem dl_1190 : decode code 1190 = .ok (.iaload, 1) := by decide +kernel
theorem dl_1191 : decode code 1191 = .ok (.invokevirtual 142, 3) := by decide +kernel
theorem dl_1194 : decode code 1194 = .ok (.lcmp, 1) := by decide +kernel
theorem dl_1195 : decode code 1195 = .ok (.ifCond .eq 827, 3) := by decide +kernel
theorem dl_1198 : decode code 1198 = .ok (.iconst 0, 1) := by decide +kernel
theorem dl_1199 : decode code 1199 = .ok (.ireturn, 1) := by decide +kernel
theorem dl_1200 : decode code 1200 = .ok (.aload_n 1, 1) := by decide +kernel
theorem dl_1201 : decode code 1201 = .ok (.aload_n 0, 1) := by decide +kernel
theorem dl_1202 : decode code 1202 = .ok (.iload_n 3, 1) := by decide +kernel
theorem dl_1203 : decode code 1203 = .ok (.iconst 1, 1) := by decide +kernel
theorem dl_1204 : decode code 1204 = .ok (.iadd, 1) := by decide +kernel
theorem dl_1205 : decode code 1205 = .ok (.iaload, 1) := by decide +kernel
theorem dl_1206 : decode code 1206 = .ok (.invokevirtual 143, 3) := by decide +kernel
theorem dl_1209 : decode code 1209 = .ok (.aload_n 2, 1) := by decide +kernel
theorem dl_1210 : decode code 1210 = .ok (.aload_n 0, 1) := by decide +kernel
theorem dl_1211 : decode code 1211 = .ok (.iload_n 3, 1) := by decide +kernel
theorem dl_1212 : decode code 1212 = .ok (.iconst 1, 1) := by decide +kernel
theorem dl_1213 : decode code 1213 = .ok (.iadd, 1) := by decide +kernel
theorem dl_1214 : decode code 1214 = .ok (.iaload, 1) := by decide +kernel
theorem dl_1215 : decode code 1215 = .ok (.invokevirtual 146, 3) := by decide +kernel
theorem dl_1218 : decode code 1218 = .ok (.if_icmp .eq 804, 3) := by decide +kernel
theorem dl_1221 : decode code 1221 = .ok (.iconst 0, 1) := by decide +kernel
theorem dl_1222 : decode code 1222 = .ok (.ireturn, 1) := by decide +kernel
theorem dl_1223 : decode code 1223 = .ok (.aload_n 1, 1) := by decide +kernel
theorem dl_1224 : decode code 1224 = .ok (.aload_n 0, 1) := by decide +kernel
theorem dl_1225 : decode code 1225 = .ok (.iload_n 3, 1) := by decide +kernel
theorem dl_1226 : decode code 1226 = .ok (.iconst 1, 1) := by decide +kernel
theorem dl_1227 : decode code 1227 = .ok (.iadd, 1) := by decide +kernel
theorem dl_1228 : decode code 1228 = .ok (.iaload, 1) := by decide +kernel
theorem dl_1229 : decode code 1229 = .ok (.aload_n 0, 1) := by decide +kernel
theorem dl_1230 : decode code 1230 = .ok (.iload_n 3, 1) := by decide +kernel
theorem dl_1231 : decode code 1231 = .ok (.iconst 2, 1) := by decide +kernel
theorem dl_1232 : decode code 1232 = .ok (.iadd, 1) := by decide +kernel
theorem dl_1233 : decode code 1233 = .ok (.iaload, 1) := by decide +kernel
theorem dl_1234 : decode code 1234 = .ok (.invokevirtual 147, 3) := by decide +kernel
theorem dl_1237 : decode code 1237 = .ok (.aload_n 2, 1) := by decide +kernel
theorem dl_1238 : decode code 1238 = .ok (.aload_n 0, 1) := by decide +kernel
theorem dl_1239 : decode code 1239 = .ok (.iload_n 3, 1) := by decide +kernel
theorem dl_1240 : decode code 1240 = .ok (.iconst 1, 1) := by decide +kernel
theorem dl_1241 : decode code 1241 = .ok (.iadd, 1) := by decide +kernel
theorem dl_1242 : decode code 1242 = .ok (.iaload, 1) := by decide +kernel
theorem dl_1243 : decode code 1243 = .ok (.aload_n 0, 1) := by decide +kernel
theorem dl_1244 : decode code 1244 = .ok (.iload_n 3, 1) := by decide +kernel
theorem dl_1245 : decode code 1245 = .ok (.iconst 2, 1) := by decide +kernel
theorem dl_1246 : decode code 1246 = .ok (.iadd, 1) := by decide +kernel
theorem dl_1247 : decode code 1247 = .ok (.iaload, 1) := by decide +kernel
theorem dl_1248 : decode code 1248 = .ok (.invokevirtual 150, 3) := by decide +kernel
theorem dl_1251 : decode code 1251 = .ok (.if_icmp .eq 771, 3) := by decide +kernel
theorem dl_1254 : decode code 1254 = .ok (.iconst 0, 1) := by decide +kernel
theorem dl_1255 : decode code 1255 = .ok (.ireturn, 1) := by decide +kernel
theorem dl_1256 : decode code 1256 = .ok (.aload_n 1, 1) := by decide +kernel
theorem dl_1257 : decode code 1257 = .ok (.aload_n 0, 1) := by decide +kernel
theorem dl_1258 : decode code 1258 = .ok (.iload_n 3, 1) := by decide +kernel
theorem dl_1259 : decode code 1259 = .ok (.iconst 1, 1) := by decide +kernel
theorem dl_1260 : decode code 1260 = .ok (.iadd, 1) := by decide +kernel
theorem dl_1261 : decode code 1261 = .ok (.iaload, 1) := by decide +kernel
theorem dl_1262 : decode code 1262 = .ok (.aload_n 0, 1) := by decide +kernel
theorem dl_1263 : decode code 1263 = .ok (.iload_n 3, 1) := by decide +kernel
theorem dl_1264 : decode code 1264 = .ok (.iconst 2, 1) := by decide +kernel
theorem dl_1265 : decode code 1265 = .ok (.iadd, 1) := by decide +kernel
theorem dl_1266 : decode code 1266 = .ok (.iaload, 1) := by decide +kernel
theorem dl_1267 : decode code 1267 = .ok (.invokevirtual 151, 3) := by decide +kernel
theorem dl_1270 : decode code 1270 = .ok (.aload_n 2, 1) := by decide +kernel
theorem dl_1271 : decode code 1271 = .ok (.aload_n 0, 1) := by decide +kernel
theorem dl_1272 : decode code 1272 = .ok (.iload_n 3, 1) := by decide +kernel
theorem dl_1273 : decode code 1273 = .ok (.iconst 1, 1) := by decide +kernel
theorem dl_1274 : decode code 1274 = .ok (.iadd, 1) := by decide +kernel
theorem dl_1275 : decode code 1275 = .ok (.iaload, 1) := by decide +kernel
theorem dl_1276 : decode code 1276 = .ok (.aload_n 0, 1) := by decide +kernel
theorem dl_1277 : decode code 1277 = .ok (.iload_n 3, 1) := by decide +kernel
theorem dl_1278 : decode code 1278 = .ok (.iconst 2, 1) := by decide +kernel
theorem dl_1279 : decode code 1279 = .ok (.iadd, 1) := by decide +kernel
theorem dl_1280 : decode code 1280 = .ok (.iaload, 1) := by decide +kernel
theorem dl_1281 : decode code 1281 = .ok (.invokevirtual 154, 3) := by decide +kernel
theorem dl_1284 : decode code 1284 = .ok (.if_icmp .eq 738, 3) := by decide +kernel
theorem dl_1287 : decode code 1287 = .ok (.iconst 0, 1) := by decide +kernel
theorem dl_1288 : decode code 1288 = .ok (.ireturn, 1) := by decide +kernel
theorem dl_1289 : decode code 1289 = .ok (.aload_n 1, 1) := by decide +kernel
theorem dl_1290 : decode code 1290 = .ok (.aload_n 0, 1) := by decide +kernel
theorem dl_1291 : decode code 1291 = .ok (.iload_n 3, 1) := by decide +kernel
theorem dl_1292 : decode code 1292 = .ok (.iconst 1, 1) := by decide +kernel
theorem dl_1293 : decode code 1293 = .ok (.iadd, 1) := by decide +kernel
theorem dl_1294 : decode code 1294 = .ok (.iaload, 1) := by decide +kernel
theorem dl_1295 : decode code 1295 = .ok (.invokevirtual 155, 3) := by decide +kernel
theorem dl_1298 : decode code 1298 = .ok (.aload_n 2, 1) := by decide +kernel
theorem dl_1299 : decode code 1299 = .ok (.aload_n 0, 1) := by decide +kernel
theorem dl_1300 : decode code 1300 = .ok (.iload_n 3, 1) := by decide +kernel
theorem dl_1301 : decode code 1301 = .ok (.iconst 1, 1) := by decide +kernel
theorem dl_1302 : decode code 1302 = .ok (.iadd, 1) := by decide +kernel
theorem dl_1303 : decode code 1303 = .ok (.iaload, 1) := by decide +kernel
theorem dl_1304 : decode code 1304 = .ok (.invokevirtual 158, 3) := by decide +kernel
theorem dl_1307 : decode code 1307 = .ok (.if_icmp .eq 715, 3) := by decide +kernel
theorem dl_1310 : decode code 1310 = .ok (.iconst 0, 1) := by decide +kernel
theorem dl_1311 : decode code 1311 = .ok (.ireturn, 1) := by decide +kernel
theorem dl_1312 : decode code 1312 = .ok (.aload_n 1, 1) := by decide +kernel
theorem dl_1313 : decode code 1313 = .ok (.aload_n 0, 1) := by decide +kernel
theorem dl_1314 : decode code 1314 = .ok (.iload_n 3, 1) := by decide +kernel
theorem dl_1315 : decode code 1315 = .ok (.iconst 1, 1) := by decide +kernel
theorem dl_1316 : decode code 1316 = .ok (.iadd, 1) := by decide +kernel
theorem dl_1317 : decode code 1317 = .ok (.iaload, 1) := by decide +kernel
theorem dl_1318 : decode code 1318 = .ok (.invokevirtual 159, 3) := by decide +kernel
theorem dl_1321 : decode code 1321 = .ok (.aload_n 2, 1) := by decide +kernel
theorem dl_1322 : decode code 1322 = .ok (.aload_n 0, 1) := by decide +kernel
theorem dl_1323 : decode code 1323 = .ok (.iload_n 3, 1) := by decide +kernel
theorem dl_1324 : decode code 1324 = .ok (.iconst 1, 1) := by decide +kernel
theorem dl_1325 : decode code 1325 = .ok (.iadd, 1) := by decide +kernel
theorem dl_1326 : decode code 1326 = .ok (.iaload, 1) := by decide +kernel
theorem dl_1327 : decode code 1327 = .ok (.invokevirtual 162, 3) := by decide +kernel
theorem dl_1330 : decode code 1330 = .ok (.if_icmp .eq 692, 3) := by decide +kernel
theorem dl_1333 : decode code 1333 = .ok (.iconst 0, 1) := by decide +kernel
theorem dl_1334 : decode code 1334 = .ok (.ireturn, 1) := by decide +kernel
theorem dl_1335 : decode code 1335 = .ok (.aload_n 1, 1) := by decide +kernel
theorem dl_1336 : decode code 1336 = .ok (.aload_n 0, 1) := by decide +kernel
theorem dl_1337 : decode code 1337 = .ok (.iload_n 3, 1) := by decide +kernel
theorem dl_1338 : decode code 1338 = .ok (.iconst 1, 1) := by decide +kernel
theorem dl_1339 : decode code 1339 = .ok (.iadd, 1) := by decide +kernel
theorem dl_1340 : decode code 1340 = .ok (.iaload, 1) := by decide +kernel
theorem dl_1341 : decode code 1341 = .ok (.aload_n 0, 1) := by decide +kernel
theorem dl_1342 : decode code 1342 = .ok (.iload_n 3, 1) := by decide +kernel
theorem dl_1343 : decode code 1343 = .ok (.iconst 2, 1) := by decide +kernel
theorem dl_1344 : decode code 1344 = .ok (.iadd, 1) := by decide +kernel
theorem dl_1345 : decode code 1345 = .ok (.iaload, 1) := by decide +kernel
theorem dl_1346 : decode code 1346 = .ok (.invokevirtual 163, 3) := by decide +kernel
theorem dl_1349 : decode code 1349 = .ok (.aload_n 2, 1) := by decide +kernel
theorem dl_1350 : decode code 1350 = .ok (.aload_n 0, 1) := by decide +kernel
theorem dl_1351 : decode code 1351 = .ok (.iload_n 3, 1) := by decide +kernel
theorem dl_1352 : decode code 1352 = .ok (.iconst 1, 1) := by decide +kernel
theorem dl_1353 : decode code 1353 = .ok (.iadd, 1) := by decide +kernel
theorem dl_1354 : decode code 1354 = .ok (.iaload, 1) := by decide +kernel
theorem dl_1355 : decode code 1355 = .ok (.aload_n 0, 1) := by decide +kernel
theorem dl_1356 : decode code 1356 = .ok (.iload_n 3, 1) := by decide +kernel
theorem dl_1357 : decode code 1357 = .ok (.iconst 2, 1) := by decide +kernel
theorem dl_1358 : decode code 1358 = .ok (.iadd, 1) := by decide +kernel
theorem dl_1359 : decode code 1359 = .ok (.iaload, 1) := by decide +kernel
theorem dl_1360 : decode code 1360 = .ok (.invokevirtual 166, 3) := by decide +kernel
theorem dl_1363 : decode code 1363 = .ok (.if_icmp .eq 659, 3) := by decide +kernel
theorem dl_1366 : decode code 1366 = .ok (.iconst 0, 1) := by decide +kernel
theorem dl_1367 : decode code 1367 = .ok (.ireturn, 1) := by decide +kernel
theorem dl_1368 : decode code 1368 = .ok (.aload_n 1, 1) := by decide +kernel
theorem dl_1369 : decode code 1369 = .ok (.aload_n 0, 1) := by decide +kernel
theorem dl_1370 : decode code 1370 = .ok (.iload_n 3, 1) := by decide +kernel
theorem dl_1371 : decode code 1371 = .ok (.iconst 1, 1) := by decide +kernel
theorem dl_1372 : decode code 1372 = .ok (.iadd, 1) := by decide +kernel
theorem dl_1373 : decode code 1373 = .ok (.iaload, 1) := by decide +kernel
theorem dl_1374 : decode code 1374 = .ok (.aload_n 0, 1) := by decide +kernel
theorem dl_1375 : decode code 1375 = .ok (.iload_n 3, 1) := by decide +kernel
theorem dl_1376 : decode code 1376 = .ok (.iconst 2, 1) := by decide +kernel
theorem dl_1377 : decode code 1377 = .ok (.iadd, 1) := by decide +kernel
theorem dl_1378 : decode code 1378 = .ok (.iaload, 1) := by decide +kernel
theorem dl_1379 : decode code 1379 = .ok (.aload_n 0, 1) := by decide +kernel
theorem dl_1380 : decode code 1380 = .ok (.iload_n 3, 1) := by decide +kernel
theorem dl_1381 : decode code 1381 = .ok (.iconst 3, 1) := by decide +kernel
theorem dl_1382 : decode code 1382 = .ok (.iadd, 1) := by decide +kernel
theorem dl_1383 : decode code 1383 = .ok (.iaload, 1) := by decide +kernel
theorem dl_1384 : decode code 1384 = .ok (.invokevirtual 167, 3) := by decide +kernel
theorem dl_1387 : decode code 1387 = .ok (.aload_n 2, 1) := by decide +kernel
theorem dl_1388 : decode code 1388 = .ok (.aload_n 0, 1) := by decide +kernel
theorem dl_1389 : decode code 1389 = .ok (.iload_n 3, 1) := by decide +kernel
theorem dl_1390 : decode code 1390 = .ok (.iconst 1, 1) := by decide +kernel
theorem dl_1391 : decode code 1391 = .ok (.iadd, 1) := by decide +kernel
theorem dl_1392 : decode code 1392 = .ok (.iaload, 1) := by decide +kernel
theorem dl_1393 : decode code 1393 = .ok (.aload_n 0, 1) := by decide +kernel
theorem dl_1394 : decode code 1394 = .ok (.iload_n 3, 1) := by decide +kernel
theorem dl_1395 : decode code 1395 = .ok (.iconst 2, 1) := by decide +kernel
theorem dl_1396 : decode code 1396 = .ok (.iadd, 1) := by decide +kernel
theorem dl_1397 : decode code 1397 = .ok (.iaload, 1) := by decide +kernel
theorem dl_1398 : decode code 1398 = .ok (.aload_n 0, 1) := by decide +kernel
theorem dl_1399 : decode code 1399 = .ok (.iload_n 3, 1) := by decide +kernel
theorem dl_1400 : decode code 1400 = .ok (.iconst 3, 1) := by decide +kernel
theorem dl_1401 : decode code 1401 = .ok (.iadd, 1) := by decide +kernel
theorem dl_1402 : decode code 1402 = .ok (.iaload, 1) := by decide +kernel
theorem dl_1403 : decode code 1403 = .ok (.invokevirtual 170, 3) := by decide +kernel
theorem dl_1406 : decode code 1406 = .ok (.if_icmp .eq 616, 3) := by decide +kernel
theorem dl_1409 : decode code 1409 = .ok (.iconst 0, 1) := by decide +kernel
theorem dl_1410 : decode code 1410 = .ok (.ireturn, 1) := by decide +kernel
theorem dl_1411 : decode code 1411 = .ok (.aload_n 1, 1) := by decide +kernel
theorem dl_1412 : decode code 1412 = .ok (.aload_n 0, 1) := by decide +kernel
theorem dl_1413 : decode code 1413 = .ok (.iload_n 3, 1) := by decide +kernel
theorem dl_1414 : decode code 1414 = .ok (.iconst 1, 1) := by decide +kernel
theorem dl_1415 : decode code 1415 = .ok (.iadd, 1) := by decide +kernel
theorem dl_1416 : decode code 1416 = .ok (.iaload, 1) := by decide +kernel
theorem dl_1417 : decode code 1417 = .ok (.invokevirtual 171, 3) := by decide +kernel
theorem dl_1420 : decode code 1420 = .ok (.aload_n 2, 1) := by decide +kernel
theorem dl_1421 : decode code 1421 = .ok (.aload_n 0, 1) := by decide +kernel
theorem dl_1422 : decode code 1422 = .ok (.iload_n 3, 1) := by decide +kernel
theorem dl_1423 : decode code 1423 = .ok (.iconst 1, 1) := by decide +kernel
theorem dl_1424 : decode code 1424 = .ok (.iadd, 1) := by decide +kernel
theorem dl_1425 : decode code 1425 = .ok (.iaload, 1) := by decide +kernel
theorem dl_1426 : decode code 1426 = .ok (.invokevirtual 174, 3) := by decide +kernel
theorem dl_1429 : decode code 1429 = .ok (.if_icmp .eq 593, 3) := by decide +kernel
theorem dl_1432 : decode code 1432 = .ok (.iconst 0, 1) := by decide +kernel
theorem dl_1433 : decode code 1433 = .ok (.ireturn, 1) := by decide +kernel
theorem dl_1434 : decode code 1434 = .ok (.aload_n 1, 1) := by decide +kernel
theorem dl_1435 : decode code 1435 = .ok (.invokevirtual 175, 3) := by decide +kernel
theorem dl_1438 : decode code 1438 = .ok (.aload_n 2, 1) := by decide +kernel
theorem dl_1439 : decode code 1439 = .ok (.invokevirtual 178, 3) := by decide +kernel
theorem dl_1442 : decode code 1442 = .ok (.if_icmp .eq 580, 3) := by decide +kernel
theorem dl_1445 : decode code 1445 = .ok (.iconst 0, 1) := by decide +kernel
theorem dl_1446 : decode code 1446 = .ok (.ireturn, 1) := by decide +kernel
theorem dl_1447 : decode code 1447 = .ok (.aload_n 1, 1) := by decide +kernel
theorem dl_1448 : decode code 1448 = .ok (.aload_n 0, 1) := by decide +kernel
theorem dl_1449 : decode code 1449 = .ok (.iload_n 3, 1) := by decide +kernel
theorem dl_1450 : decode code 1450 = .ok (.iconst 1, 1) := by decide +kernel
theorem dl_1451 : decode code 1451 = .ok (.iadd, 1) := by decide +kernel
theorem dl_1452 : decode code 1452 = .ok (.iaload, 1) := by decide +kernel
theorem dl_1453 : decode code 1453 = .ok (.aload_n 0, 1) := by decide +kernel
theorem dl_1454 : decode code 1454 = .ok (.iload_n 3, 1) := by decide +kernel
theorem dl_1455 : decode code 1455 = .ok (.iconst 2, 1) := by decide +kernel
theorem dl_1456 : decode code 1456 = .ok (.iadd, 1) := by decide +kernel
theorem dl_1457 : decode code 1457 = .ok (.iaload, 1) := by decide +kernel
theorem dl_1458 : decode code 1458 = .ok (.aload_n 0, 1) := by decide +kernel
theorem dl_1459 : decode code 1459 = .ok (.iload_n 3, 1) := by decide +kernel
theorem dl_1460 : decode code 1460 = .ok (.iconst 3, 1) := by decide +kernel
theorem dl_1461 : decode code 1461 = .ok (.iadd, 1) := by decide +kernel
theorem dl_1462 : decode code 1462 = .ok (.iaload, 1) := by decide +kernel
theorem dl_1463 : decode code 1463 = .ok (.invokevirtual 179, 3) := by decide +kernel
theorem dl_1466 : decode code 1466 = .ok (.aload_n 2, 1) := by decide +kernel
theorem dl_1467 : decode code 1467 = .ok (.aload_n 0, 1) := by decide +kernel
theorem dl_1468 : decode code 1468 = .ok (.iload_n 3, 1) := by decide +kernel
theorem dl_1469 : decode code 1469 = .ok (.iconst 1, 1) := by decide +kernel
theorem dl_1470 : decode code 1470 = .ok (.iadd, 1) := by decide +kernel
theorem dl_1471 : decode code 1471 = .ok (.iaload, 1) := by decide +kernel
theorem dl_1472 : decode code 1472 = .ok (.aload_n 0, 1) := by decide +kernel
theorem dl_1473 : decode code 1473 = .ok (.iload_n 3, 1) := by decide +kernel
theorem dl_1474 : decode code 1474 = .ok (.iconst 2, 1) := by decide +kernel
theorem dl_1475 : decode code 1475 = .ok (.iadd, 1) := by decide +kernel
theorem dl_1476 : decode code 1476 = .ok (.iaload, 1) := by decide +kernel
theorem dl_1477 : decode code 1477 = .ok (.aload_n 0, 1) := by decide +kernel
theorem dl_1478 : decode code 1478 = .ok (.iload_n 3, 1) := by decide +kernel
theorem dl_1479 : decode code 1479 = .ok (.iconst 3, 1) := by decide +kernel
theorem dl_1480 : decode code 1480 = .ok (.iadd, 1) := by decide +kernel
theorem dl_1481 : decode code 1481 = .ok (.iaload, 1) := by decide +kernel
theorem dl_1482 : decode code 1482 = .ok (.invokevirtual 182, 3) := by decide +kernel
theorem dl_1485 : decode code 1485 = .ok (.if_icmp .eq 537, 3) := by decide +kernel
theorem dl_1488 : decode code 1488 = .ok (.iconst 0, 1) := by decide +kernel
theorem dl_1489 : decode code 1489 = .ok (.ireturn, 1) := by decide +kernel
theorem dl_1490 : decode code 1490 = .ok (.aload_n 1, 1) := by decide +kernel
theorem dl_1491 : decode code 1491 = .ok (.aload_n 0, 1) := by decide +kernel
theorem dl_1492 : decode code 1492 = .ok (.iload_n 3, 1) := by decide +kernel
theorem dl_1493 : decode code 1493 = .ok (.iconst 1, 1) := by decide +kernel
theorem dl_1494 : decode code 1494 = .ok (.iadd, 1) := by decide +kernel
theorem dl_1495 : decode code 1495 = .ok (.iaload, 1) := by decide +kernel
theorem dl_1496 : decode code 1496 = .ok (.aload_n 0, 1) := by decide +kernel
theorem dl_1497 : decode code 1497 = .ok (.iload_n 3, 1) := by decide +kernel
theorem dl_1498 : decode code 1498 = .ok (.iconst 2, 1) := by decide +kernel
theorem dl_1499 : decode code 1499 = .ok (.iadd, 1) := by decide +kernel
theorem dl_1500 : decode code 1500 = .ok (.iaload, 1) := by decide +kernel
theorem dl_1501 : decode code 1501 = .ok (.aload_n 0, 1) := by decide +kernel
theorem dl_1502 : decode code 1502 = .ok (.iload_n 3, 1) := by decide +kernel
theorem dl_1503 : decode code 1503 = .ok (.iconst 3, 1) := by decide +kernel
theorem dl_1504 : decode code 1504 = .ok (.iadd, 1) := by decide +kernel
theorem dl_1505 : decode code 1505 = .ok (.iaload, 1) := by decide +kernel
theorem dl_1506 : decode code 1506 = .ok (.invokevirtual 183, 3) := by decide +kernel
theorem dl_1509 : decode code 1509 = .ok (.aload_n 2, 1) := by decide +kernel
theorem dl_1510 : decode code 1510 = .ok (.aload_n 0, 1) := by decide +kernel
theorem dl_1511 : decode code 1511 = .ok (.iload_n 3, 1) := by decide +kernel
theorem dl_1512 : decode code 1512 = .ok (.iconst 1, 1) := by decide +kernel
theorem dl_1513 : decode code 1513 = .ok (.iadd, 1) := by decide +kernel
theorem dl_1514 : decode code 1514 = .ok (.iaload, 1) := by decide +kernel
theorem dl_1515 : decode code 1515 = .ok (.aload_n 0, 1) := by decide +kernel
theorem dl_1516 : decode code 1516 = .ok (.iload_n 3, 1) := by decide +kernel
theorem dl_1517 : decode code 1517 = .ok (.iconst 2, 1) := by decide +kernel
theorem dl_1518 : decode code 1518 = .ok (.iadd, 1) := by decide +kernel
theorem dl_1519 : decode code 1519 = .ok (.iaload, 1) := by decide +kernel
theorem dl_1520 : decode code 1520 = .ok (.aload_n 0, 1) := by decide +kernel
theorem dl_1521 : decode code 1521 = .ok (.iload_n 3, 1) := by decide +kernel
theorem dl_1522 : decode code 1522 = .ok (.iconst 3, 1) := by decide +kernel
theorem dl_1523 : decode code 1523 = .ok (.iadd, 1) := by decide +kernel
theorem dl_1524 : decode code 1524 = .ok (.iaload, 1) := by decide +kernel
theorem dl_1525 : decode code 1525 = .ok (.invokevirtual 186, 3) := by decide +kernel
theorem dl_1528 : decode code 1528 = .ok (.if_icmp .eq 494, 3) := by decide +kernel
theorem dl_1531 : decode code 1531 = .ok (.iconst 0, 1) := by decide +kernel
theorem dl_1532 : decode code 1532 = .ok (.ireturn, 1) := by decide +kernel
theorem dl_1533 : decode code 1533 = .ok (.aload_n 1, 1) := by decide +kernel
theorem dl_1534 : decode code 1534 = .ok (.aload_n 0, 1) := by decide +kernel
theorem dl_1535 : decode code 1535 = .ok (.iload_n 3, 1) := by decide +kernel
theorem dl_1536 : decode code 1536 = .ok (.iconst 1, 1) := by decide +kernel
theorem dl_1537 : decode code 1537 = .ok (.iadd, 1) := by decide +kernel
theorem dl_1538 : decode code 1538 = .ok (.iaload, 1) := by decide +kernel
theorem dl_1539 : decode code 1539 = .ok (.invokevirtual 187, 3) := by decide +kernel
theorem dl_1542 : decode code 1542 = .ok (.aload_n 2, 1) := by decide +kernel
theorem dl_1543 : decode code 1543 = .ok (.aload_n 0, 1) := by decide +kernel
theorem dl_1544 : decode code 1544 = .ok (.iload_n 3, 1) := by decide +kernel
theorem dl_1545 : decode code 1545 = .ok (.iconst 1, 1) := by decide +kernel
theorem dl_1546 : decode code 1546 = .ok (.iadd, 1) := by decide +kernel
theorem dl_1547 : decode code 1547 = .ok (.iaload, 1) := by decide +kernel
theorem dl_1548 : decode code 1548 = .ok (.invokevirtual 190, 3) := by decide +kernel
theorem dl_1551 : decode code 1551 = .ok (.if_icmp .eq 471, 3) := by decide +kernel
theorem dl_1554 : decode code 1554 = .ok (.iconst 0, 1) := by decide +kernel
theorem dl_1555 : decode code 1555 = .ok (.ireturn, 1) := by decide +kernel
theorem dl_1556 : decode code 1556 = .ok (.aload_n 1, 1) := by decide +kernel
theorem dl_1557 : decode code 1557 = .ok (.aload_n 0, 1) := by decide +kernel
theorem dl_1558 : decode code 1558 = .ok (.iload_n 3, 1) := by decide +kernel
theorem dl_1559 : decode code 1559 = .ok (.iconst 1, 1) := by decide +kernel
theorem dl_1560 : decode code 1560 = .ok (.iadd, 1) := by decide +kernel
theorem dl_1561 : decode code 1561 = .ok (.iaload, 1) := by decide +kernel
theorem dl_1562 : decode code 1562 = .ok (.invokevirtual 191, 3) := by decide +kernel
theorem dl_1565 : decode code 1565 = .ok (.aload_n 2, 1) := by decide +kernel
theorem dl_1566 : decode code 1566 = .ok (.aload_n 0, 1) := by decide +kernel
theorem dl_1567 : decode code 1567 = .ok (.iload_n 3, 1) := by decide +kernel
theorem dl_1568 : decode code 1568 = .ok (.iconst 1, 1) := by decide +kernel
theorem dl_1569 : decode code 1569 = .ok (.iadd, 1) := by decide +kernel
theorem dl_1570 : decode code 1570 = .ok (.iaload, 1) := by decide +kernel
theorem dl_1571 : decode code 1571 = .ok (.invokevirtual 194, 3) := by decide +kernel
theorem dl_1574 : decode code 1574 = .ok (.if_icmp .eq 448, 3) := by decide +kernel
theorem dl_1577 : decode code 1577 = .ok (.iconst 0, 1) := by decide +kernel
theorem dl_1578 : decode code 1578 = .ok (.ireturn, 1) := by decide +kernel
theorem dl_1579 : decode code 1579 = .ok (.aload_n 1, 1) := by decide +kernel
theorem dl_1580 : decode code 1580 = .ok (.aload_n 0, 1) := by decide +kernel
theorem dl_1581 : decode code 1581 = .ok (.iload_n 3, 1) := by decide +kernel
theorem dl_1582 : decode code 1582 = .ok (.iconst 1, 1) := by decide +kernel
theorem dl_1583 : decode code 1583 = .ok (.iadd, 1) := by decide +kernel
theorem dl_1584 : decode code 1584 = .ok (.iaload, 1) := by decide +kernel
theorem dl_1585 : decode code 1585 = .ok (.aload_n 0, 1) := by decide +kernel
theorem dl_1586 : decode code 1586 = .ok (.iload_n 3, 1) := by decide +kernel
theorem dl_1587 : decode code 1587 = .ok (.iconst 2, 1) := by decide +kernel
theorem dl_1588 : decode code 1588 = .ok (.iadd, 1) := by decide +kernel
theorem dl_1589 : decode code 1589 = .ok (.iaload, 1) := by decide +kernel
theorem dl_1590 : decode code 1590 = .ok (.aload_n 0, 1) := by decide +kernel
theorem dl_1591 : decode code 1591 = .ok (.iload_n 3, 1) := by decide +kernel
theorem dl_1592 : decode code 1592 = .ok (.iconst 3, 1) := by decide +kernel
theorem dl_1593 : decode code 1593 = .ok (.iadd, 1) := by decide +kernel
theorem dl_1594 : decode code 1594 = .ok (.iaload, 1) := by decide +kernel
theorem dl_1595 : decode code 1595 = .ok (.aload_n 0, 1) := by decide +kernel
theorem dl_1596 : decode code 1596 = .ok (.iload_n 3, 1) := by decide +kernel
theorem dl_1597 : decode code 1597 = .ok (.iconst 4, 1) := by decide +kernel
theorem dl_1598 : decode code 1598 = .ok (.iadd, 1) := by decide +kernel
theorem dl_1599 : decode code 1599 = .ok (.iaload, 1) := by decide +kernel
theorem dl_1600 : decode code 1600 = .ok (.invokevirtual 195, 3) := by decide +kernel
theorem dl_1603 : decode code 1603 = .ok (.aload_n 2, 1) := by decide +kernel
theorem dl_1604 : decode code 1604 = .ok (.aload_n 0, 1) := by decide +kernel
theorem dl_1605 : decode code 1605 = .ok (.iload_n 3, 1) := by decide +kernel
theorem dl_1606 : decode code 1606 = .ok (.iconst 1, 1) := by decide +kernel
theorem dl_1607 : decode code 1607 = .ok (.iadd, 1) := by decide +kernel
theorem dl_1608 : decode code 1608 = .ok (.iaload, 1) := by decide +kernel
theorem dl_1609 : decode code 1609 = .ok (.aload_n 0, 1) := by decide +kernel
theorem dl_1610 : decode code 1610 = .ok (.iload_n 3, 1) := by decide +kernel
theorem dl_1611 : decode code 1611 = .ok (.iconst 2, 1) := by decide +kernel
theorem dl_1612 : decode code 1612 = .ok (.iadd, 1) := by decide +kernel
theorem dl_1613 : decode code 1613 = .ok (.iaload, 1) := by decide +kernel
theorem dl_1614 : decode code 1614 = .ok (.aload_n 0, 1) := by decide +kernel
theorem dl_1615 : decode code 1615 = .ok (.iload_n 3, 1) := by decide +kernel
theorem dl_1616 : decode code 1616 = .ok (.iconst 3, 1) := by decide +kernel
theorem dl_1617 : decode code 1617 = .ok (.iadd, 1) := by decide +kernel
theorem dl_1618 : decode code 1618 = .ok (.iaload, 1) := by decide +kernel
theorem dl_1619 : decode code 1619 = .ok (.aload_n 0, 1) := by decide +kernel
theorem dl_1620 : decode code 1620 = .ok (.iload_n 3, 1) := by decide +kernel
theorem dl_1621 : decode code 1621 = .ok (.iconst 4, 1) := by decide +kernel
theorem dl_1622 : decode code 1622 = .ok (.iadd, 1) := by decide +kernel
theorem dl_1623 : decode code 1623 = .ok (.iaload, 1) := by decide +kernel
theorem dl_1624 : decode code 1624 = .ok (.invokevirtual 198, 3) := by decide +kernel
theorem dl_1627 : decode code 1627 = .ok (.if_icmp .eq 395, 3) := by decide +kernel
theorem dl_1630 : decode code 1630 = .ok (.iconst 0, 1) := by decide +kernel
theorem dl_1631 : decode code 1631 = .ok (.ireturn, 1) := by decide +kernel
theorem dl_1632 : decode code 1632 = .ok (.aload_n 1, 1) := by decide +kernel
theorem dl_1633 : decode code 1633 = .ok (.invokevirtual 199, 3) := by decide +kernel
theorem dl_1636 : decode code 1636 = .ok (.aload_n 2, 1) := by decide +kernel
theorem dl_1637 : decode code 1637 = .ok (.invokevirtual 202, 3) := by decide +kernel
theorem dl_1640 : decode code 1640 = .ok (.if_icmp .eq 382, 3) := by decide +kernel
theorem dl_1643 : decode code 1643 = .ok (.iconst 0, 1) := by decide +kernel
theorem dl_1644 : decode code 1644 = .ok (.ireturn, 1) := by decide +kernel
theorem dl_1645 : decode code 1645 = .ok (.aload_n 1, 1) := by decide +kernel
theorem dl_1646 : decode code 1646 = .ok (.invokevirtual 203, 3) := by decide +kernel
theorem dl_1649 : decode code 1649 = .ok (.aload_n 2, 1) := by decide +kernel
theorem dl_1650 : decode code 1650 = .ok (.invokevirtual 206, 3) := by decide +kernel
theorem dl_1653 : decode code 1653 = .ok (.if_icmp .eq 369, 3) := by decide +kernel
theorem dl_1656 : decode code 1656 = .ok (.iconst 0, 1) := by decide +kernel
theorem dl_1657 : decode code 1657 = .ok (.ireturn, 1) := by decide +kernel
theorem dl_1658 : decode code 1658 = .ok (.aload_n 1, 1) := by decide +kernel
theorem dl_1659 : decode code 1659 = .ok (.aload_n 0, 1) := by decide +kernel
theorem dl_1660 : decode code 1660 = .ok (.iload_n 3, 1) := by decide +kernel
theorem dl_1661 : decode code 1661 = .ok (.iconst 1, 1) := by decide +kernel
theorem dl_1662 : decode code 1662 = .ok (.iadd, 1) := by decide +kernel
theorem dl_1663 : decode code 1663 = .ok (.iaload, 1) := by decide +kernel
theorem dl_1664 : decode code 1664 = .ok (.aload_n 0, 1) := by decide +kernel
theorem dl_1665 : decode code 1665 = .ok (.iload_n 3, 1) := by decide +kernel
theorem dl_1666 : decode code 1666 = .ok (.iconst 2, 1) := by decide +kernel
theorem dl_1667 : decode code 1667 = .ok (.iadd, 1) := by decide +kernel
theorem dl_1668 : decode code 1668 = .ok (.iaload, 1) := by decide +kernel
theorem dl_1669 : decode code 1669 = .ok (.invokevirtual 207, 3) := by decide +kernel
theorem dl_1672 : decode code 1672 = .ok (.aload_n 2, 1) := by decide +kernel
theorem dl_1673 : decode code 1673 = .ok (.aload_n 0, 1) := by decide +kernel
theorem dl_1674 : decode code 1674 = .ok (.iload_n 3, 1) := by decide +kernel
theorem dl_1675 : decode code 1675 = .ok (.iconst 1, 1) := by decide +kernel
theorem dl_1676 : decode code 1676 = .ok (.iadd, 1) := by decide +kernel
theorem dl_1677 : decode code 1677 = .ok (.iaload, 1) := by decide +kernel
theorem dl_1678 : decode code 1678 = .ok (.aload_n 0, 1) := by decide +kernel
theorem dl_1679 : decode code 1679 = .ok (.iload_n 3, 1) := by decide +kernel
theorem dl_1680 : decode code 1680 = .ok (.iconst 2, 1) := by decide +kernel
theorem dl_1681 : decode code 1681 = .ok (.iadd, 1) := by decide +kernel
theorem dl_1682 : decode code 1682 = .ok (.iaload, 1) := by decide +kernel
theorem dl_1683 : decode code 1683 = .ok (.invokevirtual 210, 3) := by decide +kernel
theorem dl_1686 : decode code 1686 = .ok (.if_icmp .eq 336, 3) := by decide +kernel
theorem dl_1689 : decode code 1689 = .ok (.iconst 0, 1) := by decide +kernel
theorem dl_1690 : decode code 1690 = .ok (.ireturn, 1) := by decide +kernel
theorem dl_1691 : decode code 1691 = .ok (.aload_n 1, 1) := by decide +kernel
theorem dl_1692 : decode code 1692 = .ok (.aload_n 0, 1) := by decide +kernel
theorem dl_1693 : decode code 1693 = .ok (.iload_n 3, 1) := by decide +kernel
theorem dl_1694 : decode code 1694 = .ok (.iconst 1, 1) := by decide +kernel
theorem dl_1695 : decode code 1695 = .ok (.iadd, 1) := by decide +kernel
theorem dl_1696 : decode code 1696 = .ok (.iaload, 1) := by decide +kernel
theorem dl_1697 : decode code 1697 = .ok (.invokevirtual 211, 3) := by decide +kernel
theorem dl_1700 : decode code 1700 = .ok (.aload_n 2, 1) := by decide +kernel
theorem dl_1701 : decode code 1701 = .ok (.aload_n 0, 1) := by decide +kernel
theorem dl_1702 : decode code 1702 = .ok (.iload_n 3, 1) := by decide +kernel
theorem dl_1703 : decode code 1703 = .ok (.iconst 1, 1) := by decide +kernel
theorem dl_1704 : decode code 1704 = .ok (.iadd, 1) := by decide +kernel
theorem dl_1705 : decode code 1705 = .ok (.iaload, 1) := by decide +kernel
theorem dl_1706 : decode code 1706 = .ok (.invokevirtual 214, 3) := by decide +kernel
theorem dl_1709 : decode code 1709 = .ok (.if_icmp .eq 313, 3) := by decide +kernel
theorem dl_1712 : decode code 1712 = .ok (.iconst 0, 1) := by decide +kernel
theorem dl_1713 : decode code 1713 = .ok (.ireturn, 1) := by decide +kernel
theorem dl_1714 : decode code 1714 = .ok (.aload_n 1, 1) := by decide +kernel
theorem dl_1715 : decode code 1715 = .ok (.aload_n 0, 1) := by decide +kernel
theorem dl_1716 : decode code 1716 = .ok (.iload_n 3, 1) := by decide +kernel
theorem dl_1717 : decode code 1717 = .ok (.iconst 1, 1) := by decide +kernel
theorem dl_1718 : decode code 1718 = .ok (.iadd, 1) := by decide +kernel
theorem dl_1719 : decode code 1719 = .ok (.iaload, 1) := by decide +kernel
theorem dl_1720 : decode code 1720 = .ok (.aload_n 0, 1) := by decide +kernel
theorem dl_1721 : decode code 1721 = .ok (.iload_n 3, 1) := by decide +kernel
theorem dl_1722 : decode code 1722 = .ok (.iconst 2, 1) := by decide +kernel
theorem dl_1723 : decode code 1723 = .ok (.iadd, 1) := by decide +kernel
theorem dl_1724 : decode code 1724 = .ok (.iaload, 1) := by decide +kernel
theorem dl_1725 : decode code 1725 = .ok (.invokevirtual 215, 3) := by decide +kernel
theorem dl_1728 : decode code 1728 = .ok (.aload_n 2, 1) := by decide +kernel
theorem dl_1729 : decode code 1729 = .ok (.aload_n 0, 1) := by decide +kernel
theorem dl_1730 : decode code 1730 = .ok (.iload_n 3, 1) := by decide +kernel
theorem dl_1731 : decode code 1731 = .ok (.iconst 1, 1) := by decide +kernel
theorem dl_1732 : decode code 1732 = .ok (.iadd, 1) := by decide +kernel
theorem dl_1733 : decode code 1733 = .ok (.iaload, 1) := by decide +kernel
theorem dl_1734 : decode code 1734 = .ok (.aload_n 0, 1) := by decide +kernel
theorem dl_1735 : decode code 1735 = .ok (.iload_n 3, 1) := by decide +kernel
theorem dl_1736 : decode code 1736 = .ok (.iconst 2, 1) := by decide +kernel
theorem dl_1737 : decode code 1737 = .ok (.iadd, 1) := by decide +kernel
theorem dl_1738 : decode code 1738 = .ok (.iaload, 1) := by decide +kernel
theorem dl_1739 : decode code 1739 = .ok (.invokevirtual 218, 3) := by decide +kernel
theorem dl_1742 : decode code 1742 = .ok (.if_icmp .eq 280, 3) := by decide +kernel
theorem dl_1745 : decode code 1745 = .ok (.iconst 0, 1) := by decide +kernel
theorem dl_1746 : decode code 1746 = .ok (.ireturn, 1) := by decide +kernel
theorem dl_1747 : decode code 1747 = .ok (.aload_n 1, 1) := by decide +kernel
theorem dl_1748 : decode code 1748 = .ok (.invokevirtual 219, 3) := by decide +kernel
theorem dl_1751 : decode code 1751 = .ok (.aload_n 2, 1) := by decide +kernel
theorem dl_1752 : decode code 1752 = .ok (.invokevirtual 223, 3) := by decide +kernel
theorem dl_1755 : decode code 1755 = .ok (.lcmp, 1) := by decide +kernel
theorem dl_1756 : decode code 1756 = .ok (.ifCond .eq 266, 3) := by decide +kernel
theorem dl_1759 : decode code 1759 = .ok (.iconst 0, 1) := by decide +kernel
theorem dl_1760 : decode code 1760 = .ok (.ireturn, 1) := by decide +kernel
theorem dl_1761 : decode code 1761 = .ok (.aload_n 1, 1) := by decide +kernel
theorem dl_1762 : decode code 1762 = .ok (.aload_n 0, 1) := by decide +kernel
theorem dl_1763 : decode code 1763 = .ok (.iload_n 3, 1) := by decide +kernel
theorem dl_1764 : decode code 1764 = .ok (.iconst 1, 1) := by decide +kernel
theorem dl_1765 : decode code 1765 = .ok (.iadd, 1) := by decide +kernel
theorem dl_1766 : decode code 1766 = .ok (.iaload, 1) := by decide +kernel
theorem dl_1767 : decode code 1767 = .ok (.aload_n 0, 1) := by decide +kernel
theorem dl_1768 : decode code 1768 = .ok (.iload_n 3, 1) := by decide +kernel
theorem dl_1769 : decode code 1769 = .ok (.iconst 2, 1) := by decide +kernel
theorem dl_1770 : decode code 1770 = .ok (.iadd, 1) := by decide +kernel
theorem dl_1771 : decode code 1771 = .ok (.iaload, 1) := by decide +kernel
theorem dl_1772 : decode code 1772 = .ok (.aload_n 0, 1) := by decide +kernel
theorem dl_1773 : decode code 1773 = .ok (.iload_n 3, 1) := by decide +kernel
theorem dl_1774 : decode code 1774 = .ok (.iconst 3, 1) := by decide +kernel
theorem dl_1775 : decode code 1775 = .ok (.iadd, 1) := by decide +kernel
theorem dl_1776 : decode code 1776 = .ok (.iaload, 1) := by decide +kernel
theorem dl_1777 : decode code 1777 = .ok (.aload_n 0, 1) := by decide +kernel
theorem dl_1778 : decode code 1778 = .ok (.iload_n 3, 1) := by decide +kernel
theorem dl_1779 : decode code 1779 = .ok (.iconst 4, 1) := by decide +kernel
theorem dl_1780 : decode code 1780 = .ok (.iadd, 1) := by decide +kernel
theorem dl_1781 : decode code 1781 = .ok (.iaload, 1) := by decide +kernel
theorem dl_1782 : decode code 1782 = .ok (.aload_n 0, 1) := by decide +kernel
theorem dl_1783 : decode code 1783 = .ok (.iload_n 3, 1) := by decide +kernel
theorem dl_1784 : decode code 1784 = .ok (.iconst 5, 1) := by decide +kernel
theorem dl_1785 : decode code 1785 = .ok (.iadd, 1) := by decide +kernel
theorem dl_1786 : decode code 1786 = .ok (.iaload, 1) := by decide +kernel
theorem dl_1787 : decode code 1787 = .ok (.invokevirtual 224, 3) := by decide +kernel
theorem dl_1790 : decode code 1790 = .ok (.aload_n 2, 1) := by decide +kernel
theorem dl_1791 : decode code 1791 = .ok (.aload_n 0, 1) := by decide +kernel
theorem dl_1792 : decode code 1792 = .ok (.iload_n 3, 1) := by decide +kernel
theorem dl_1793 : decode code 1793 = .ok (.iconst 1, 1) := by decide +kernel
theorem dl_1794 : decode code 1794 = .ok (.iadd, 1) := by decide +kernel
theorem dl_1795 : decode code 1795 = .ok (.iaload, 1) := by decide +kernel
theorem dl_1796 : decode code 1796 = .ok (.aload_n 0, 1) := by decide +kernel
theorem dl_1797 : decode code 1797 = .ok (.iload_n 3, 1) := by decide +kernel
theorem dl_1798 : decode code 1798 = .ok (.iconst 2, 1) := by decide +kernel
theorem dl_1799 : decode code 1799 = .ok (.iadd, 1) := by decide +kernel
theorem dl_1800 : decode code 1800 = .ok (.iaload, 1) := by decide +kernel
theorem dl_1801 : decode code 1801 = .ok (.aload_n 0, 1) := by decide +kernel
theorem dl_1802 : decode code 1802 = .ok (.iload_n 3, 1) := by decide +kernel
theorem dl_1803 : decode code 1803 = .ok (.iconst 3, 1) := by decide +kernel
theorem dl_1804 : decode code 1804 = .ok (.iadd, 1) := by decide +kernel
theorem dl_1805 : decode code 1805 = .ok (.iaload, 1) := by decide +kernel
theorem dl_1806 : decode code 1806 = .ok (.aload_n 0, 1) := by decide +kernel
theorem dl_1807 : decode code 1807 = .ok (.iload_n 3, 1) := by decide +kernel
theorem dl_1808 : decode code 1808 = .ok (.iconst 4, 1) := by decide +kernel
theorem dl_1809 : decode code 1809 = .ok (.iadd, 1) := by decide +kernel
theorem dl_1810 : decode code 1810 = .ok (.iaload, 1) := by decide +kernel
theorem dl_1811 : decode code 1811 = .ok (.aload_n 0, 1) := by decide +kernel
theorem dl_1812 : decode code 1812 = .ok (.iload_n 3, 1) := by decide +kernel
theorem dl_1813 : decode code 1813 = .ok (.iconst 5, 1) := by decide +kernel
theorem dl_1814 : decode code 1814 = .ok (.iadd, 1) := by decide +kernel
theorem dl_1815 : decode code 1815 = .ok (.iaload, 1) := by decide +kernel
theorem dl_1816 : decode code 1816 = .ok (.invokevirtual 228, 3) := by decide +kernel
theorem dl_1819 : decode code 1819 = .ok (.if_icmp .eq 203, 3) := by decide +kernel
theorem dl_1822 : decode code 1822 = .ok (.iconst 0, 1) := by decide +kernel
theorem dl_1823 : decode code 1823 = .ok (.ireturn, 1) := by decide +kernel
theorem dl_1824 : decode code 1824 = .ok (.aload_n 1, 1) := by decide +kernel
theorem dl_1825 : decode code 1825 = .ok (.aload_n 0, 1) := by decide +kernel
theorem dl_1826 : decode code 1826 = .ok (.iload_n 3, 1) := by decide +kernel
theorem dl_1827 : decode code 1827 = .ok (.iconst 1, 1) := by decide +kernel
theorem dl_1828 : decode code 1828 = .ok (.iadd, 1) := by decide +kernel
theorem dl_1829 : decode code 1829 = .ok (.iaload, 1) := by decide +kernel
theorem dl_1830 : decode code 1830 = .ok (.invokevirtual 229, 3) := by decide +kernel
theorem dl_1833 : decode code 1833 = .ok (.aload_n 2, 1) := by decide +kernel
theorem dl_1834 : decode code 1834 = .ok (.aload_n 0, 1) := by decide +kernel
theorem dl_1835 : decode code 1835 = .ok (.iload_n 3, 1) := by decide +kernel
theorem dl_1836 : decode code 1836 = .ok (.iconst 1, 1) := by decide +kernel
theorem dl_1837 : decode code 1837 = .ok (.iadd, 1) := by decide +kernel
theorem dl_1838 : decode code 1838 = .ok (.iaload, 1) := by decide +kernel
theorem dl_1839 : decode code 1839 = .ok (.invokevirtual 232, 3) := by decide +kernel
theorem dl_1842 : decode code 1842 = .ok (.if_icmp .eq 180, 3) := by decide +kernel
theorem dl_1845 : decode code 1845 = .ok (.iconst 0, 1) := by decide +kernel
theorem dl_1846 : decode code 1846 = .ok (.ireturn, 1) := by decide +kernel
theorem dl_1847 : decode code 1847 = .ok (.aload_n 1, 1) := by decide +kernel
theorem dl_1848 : decode code 1848 = .ok (.aload_n 0, 1) := by decide +kernel
theorem dl_1849 : decode code 1849 = .ok (.iload_n 3, 1) := by decide +kernel
theorem dl_1850 : decode code 1850 = .ok (.iconst 1, 1) := by decide +kernel
theorem dl_1851 : decode code 1851 = .ok (.iadd, 1) := by decide +kernel
theorem dl_1852 : decode code 1852 = .ok (.iaload, 1) := by decide +kernel
theorem dl_1853 : decode code 1853 = .ok (.aload_n 0, 1) := by decide +kernel
theorem dl_1854 : decode code 1854 = .ok (.iload_n 3, 1) := by decide +kernel
theorem dl_1855 : decode code 1855 = .ok (.iconst 2, 1) := by decide +kernel
theorem dl_1856 : decode code 1856 = .ok (.iadd, 1) := by decide +kernel
theorem dl_1857 : decode code 1857 = .ok (.iaload, 1) := by decide +kernel
theorem dl_1858 : decode code 1858 = .ok (.invokevirtual 233, 3) := by decide +kernel
theorem dl_1861 : decode code 1861 = .ok (.aload_n 2, 1) := by decide +kernel
theorem dl_1862 : decode code 1862 = .ok (.aload_n 0, 1) := by decide +kernel
theorem dl_1863 : decode code 1863 = .ok (.iload_n 3, 1) := by decide +kernel
theorem dl_1864 : decode code 1864 = .ok (.iconst 1, 1) := by decide +kernel
theorem dl_1865 : decode code 1865 = .ok (.iadd, 1) := by decide +kernel
theorem dl_1866 : decode code 1866 = .ok (.iaload, 1) := by decide +kernel
theorem dl_1867 : decode code 1867 = .ok (.aload_n 0, 1) := by decide +kernel
theorem dl_1868 : decode code 1868 = .ok (.iload_n 3, 1) := by decide +kernel
theorem dl_1869 : decode code 1869 = .ok (.iconst 2, 1) := by decide +kernel
theorem dl_1870 : decode code 1870 = .ok (.iadd, 1) := by decide +kernel
theorem dl_1871 : decode code 1871 = .ok (.iaload, 1) := by decide +kernel
theorem dl_1872 : decode code 1872 = .ok (.invokevirtual 236, 3) := by decide +kernel
theorem dl_1875 : decode code 1875 = .ok (.if_icmp .eq 147, 3) := by decide +kernel
theorem dl_1878 : decode code 1878 = .ok (.iconst 0, 1) := by decide +kernel
theorem dl_1879 : decode code 1879 = .ok (.ireturn, 1) := by decide +kernel
theorem dl_1880 : decode code 1880 = .ok (.aload_n 1, 1) := by decide +kernel
theorem dl_1881 : decode code 1881 = .ok (.aload_n 0, 1) := by decide +kernel
theorem dl_1882 : decode code 1882 = .ok (.iload_n 3, 1) := by decide +kernel
theorem dl_1883 : decode code 1883 = .ok (.iconst 1, 1) := by decide +kernel
theorem dl_1884 : decode code 1884 = .ok (.iadd, 1) := by decide +kernel
theorem dl_1885 : decode code 1885 = .ok (.iaload, 1) := by decide +kernel
theorem dl_1886 : decode code 1886 = .ok (.invokevirtual 237, 3) := by decide +kernel
theorem dl_1889 : decode code 1889 = .ok (.aload_n 2, 1) := by decide +kernel
theorem dl_1890 : decode code 1890 = .ok (.aload_n 0, 1) := by decide +kernel
theorem dl_1891 : decode code 1891 = .ok (.iload_n 3, 1) := by decide +kernel
theorem dl_1892 : decode code 1892 = .ok (.iconst 1, 1) := by decide +kernel
theorem dl_1893 : decode code 1893 = .ok (.iadd, 1) := by decide +kernel
theorem dl_1894 : decode code 1894 = .ok (.iaload, 1) := by decide +kernel
theorem dl_1895 : decode code 1895 = .ok (.invokevirtual 240, 3) := by decide +kernel
theorem dl_1898 : decode code 1898 = .ok (.if_icmp .eq 124, 3) := by decide +kernel
theorem dl_1901 : decode code 1901 = .ok (.iconst 0, 1) := by decide +kernel
theorem dl_1902 : decode code 1902 = .ok (.ireturn, 1) := by decide +kernel
theorem dl_1903 : decode code 1903 = .ok (.aload_n 1, 1) := by decide +kernel
theorem dl_1904 : decode code 1904 = .ok (.aload_n 0, 1) := by decide +kernel
theorem dl_1905 : decode code 1905 = .ok (.iload_n 3, 1) := by decide +kernel
theorem dl_1906 : decode code 1906 = .ok (.iconst 1, 1) := by decide +kernel
theorem dl_1907 : decode code 1907 = .ok (.iadd, 1) := by decide +kernel
theorem dl_1908 : decode code 1908 = .ok (.iaload, 1) := by decide +kernel
theorem dl_1909 : decode code 1909 = .ok (.aload_n 0, 1) := by decide +kernel
theorem dl_1910 : decode code 1910 = .ok (.iload_n 3, 1) := by decide +kernel
theorem dl_1911 : decode code 1911 = .ok (.iconst 2, 1) := by decide +kernel
theorem dl_1912 : decode code 1912 = .ok (.iadd, 1) := by decide +kernel
theorem dl_1913 : decode code 1913 = .ok (.iaload, 1) := by decide +kernel
theorem dl_1914 : decode code 1914 = .ok (.invokevirtual 241, 3) := by decide +kernel
theorem dl_1917 : decode code 1917 = .ok (.aload_n 2, 1) := by decide +kernel
theorem dl_1918 : decode code 1918 = .ok (.aload_n 0, 1) := by decide +kernel
theorem dl_1919 : decode code 1919 = .ok (.iload_n 3, 1) := by decide +kernel
theorem dl_1920 : decode code 1920 = .ok (.iconst 1, 1) := by decide +kernel
theorem dl_1921 : decode code 1921 = .ok (.iadd, 1) := by decide +kernel
theorem dl_1922 : decode code 1922 = .ok (.iaload, 1) := by decide +kernel
theorem dl_1923 : decode code 1923 = .ok (.aload_n 0, 1) := by decide +kernel
theorem dl_1924 : decode code 1924 = .ok (.iload_n 3, 1) := by decide +kernel
theorem dl_1925 : decode code 1925 = .ok (.iconst 2, 1) := by decide +kernel
theorem dl_1926 : decode code 1926 = .ok (.iadd, 1) := by decide +kernel
theorem dl_1927 : decode code 1927 = .ok (.iaload, 1) := by decide +kernel
theorem dl_1928 : decode code 1928 = .ok (.invokevirtual 244, 3) := by decide +kernel
theorem dl_1931 : decode code 1931 = .ok (.if_icmp .eq 91, 3) := by decide +kernel
theorem dl_1934 : decode code 1934 = .ok (.iconst 0, 1) := by decide +kernel
theorem dl_1935 : decode code 1935 = .ok (.ireturn, 1) := by decide +kernel
theorem dl_1936 : decode code 1936 = .ok (.aload_n 1, 1) := by decide +kernel
theorem dl_1937 : decode code 1937 = .ok (.aload_n 0, 1) := by decide +kernel
theorem dl_1938 : decode code 1938 = .ok (.iload_n 3, 1) := by decide +kernel
theorem dl_1939 : decode code 1939 = .ok (.iconst 1, 1) := by decide +kernel
theorem dl_1940 : decode code 1940 = .ok (.iadd, 1) := by decide +kernel
theorem dl_1941 : decode code 1941 = .ok (.iaload, 1) := by decide +kernel
theorem dl_1942 : decode code 1942 = .ok (.aload_n 0, 1) := by decide +kernel
theorem dl_1943 : decode code 1943 = .ok (.iload_n 3, 1) := by decide +kernel
theorem dl_1944 : decode code 1944 = .ok (.iconst 2, 1) := by decide +kernel
theorem dl_1945 : decode code 1945 = .ok (.iadd, 1) := by decide +kernel
theorem dl_1946 : decode code 1946 = .ok (.iaload, 1) := by decide +kernel
theorem dl_1947 : decode code 1947 = .ok (.invokevirtual 245, 3) := by decide +kernel
theorem dl_1950 : decode code 1950 = .ok (.aload_n 2, 1) := by decide +kernel
theorem dl_1951 : decode code 1951 = .ok (.aload_n 0, 1) := by decide +kernel
theorem dl_1952 : decode code 1952 = .ok (.iload_n 3, 1) := by decide +kernel
theorem dl_1953 : decode code 1953 = .ok (.iconst 1, 1) := by decide +kernel
theorem dl_1954 : decode code 1954 = .ok (.iadd, 1) := by decide +kernel
theorem dl_1955 : decode code 1955 = .ok (.iaload, 1) := by decide +kernel
theorem dl_1956 : decode code 1956 = .ok (.aload_n 0, 1) := by decide +kernel
theorem dl_1957 : decode code 1957 = .ok (.iload_n 3, 1) := by decide +kernel
theorem dl_1958 : decode code 1958 = .ok (.iconst 2, 1) := by decide +kernel
theorem dl_1959 : decode code 1959 = .ok (.iadd, 1) := by decide +kernel
theorem dl_1960 : decode code 1960 = .ok (.iaload, 1) := by decide +kernel
theorem dl_1961 : decode code 1961 = .ok (.invokevirtual 248, 3) := by decide +kernel
theorem dl_1964 : decode code 1964 = .ok (.if_icmp .eq 58, 3) := by decide +kernel
theorem dl_1967 : decode code 1967 = .ok (.iconst 0, 1) := by decide +kernel
theorem dl_1968 : decode code 1968 = .ok (.ireturn, 1) := by decide +kernel
theorem dl_1969 : decode code 1969 = .ok (.aload_n 1, 1) := by decide +kernel
theorem dl_1970 : decode code 1970 = .ok (.invokevirtual 249, 3) := by decide +kernel
theorem dl_1973 : decode code 1973 = .ok (.aload_n 2, 1) := by decide +kernel
theorem dl_1974 : decode code 1974 = .ok (.invokevirtual 252, 3) := by decide +kernel
theorem dl_1977 : decode code 1977 = .ok (.lcmp, 1) := by decide +kernel
theorem dl_1978 : decode code 1978 = .ok (.ifCond .eq 44, 3) := by decide +kernel
theorem dl_1981 : decode code 1981 = .ok (.iconst 0, 1) := by decide +kernel
theorem dl_1982 : decode code 1982 = .ok (.ireturn, 1) := by decide +kernel
theorem dl_1983 : decode code 1983 = .ok (.aload_n 1, 1) := by decide +kernel
theorem dl_1984 : decode code 1984 = .ok (.invokevirtual 253, 3) := by decide +kernel
theorem dl_1987 : decode code 1987 = .ok (.aload_n 2, 1) := by decide +kernel
theorem dl_1988 : decode code 1988 = .ok (.invokevirtual 256, 3) := by decide +kernel
theorem dl_1991 : decode code 1991 = .ok (.if_icmp .eq 31, 3) := by decide +kernel
theorem dl_1994 : decode code 1994 = .ok (.iconst 0, 1) := by decide +kernel
theorem dl_1995 : decode code 1995 = .ok (.ireturn, 1) := by decide +kernel
theorem dl_1996 : decode code 1996 = .ok (.aload_n 1, 1) := by decide +kernel
theorem dl_1997 : decode code 1997 = .ok (.invokevirtual 257, 3) := by decide +kernel
theorem dl_2000 : decode code 2000 = .ok (.aload_n 2, 1) := by decide +kernel
theorem dl_2001 : decode code 2001 = .ok (.invokevirtual 260, 3) := by decide +kernel
theorem dl_2004 : decode code 2004 = .ok (.if_icmp .eq 18, 3) := by decide +kernel
theorem dl_2007 : decode code 2007 = .ok (.iconst 0, 1) := by decide +kernel
theorem dl_2008 : decode code 2008 = .ok (.ireturn, 1) := by decide +kernel
theorem dl_2009 : decode code 2009 = .ok (.aload_n 1, 1) := by decide +kernel
theorem dl_2010 : decode code 2010 = .ok (.invokevirtual 261, 3) := by decide +kernel
theorem dl_2013 : decode code 2013 = .ok (.aload_n 2, 1) := by decide +kernel
theorem dl_2014 : decode code 2014 = .ok (.invokevirtual 264, 3) := by decide +kernel
theorem dl_2017 : decode code 2017 = .ok (.if_icmp .eq 5, 3) := by decide +kernel
theorem dl_2020 : decode code 2020 = .ok (.iconst 0, 1) := by decide +kernel
theorem dl_2021 : decode code 2021 = .ok (.ireturn, 1) := by decide +kernel
theorem dl_2022 : decode code 2022 = .ok (.iinc 3 6, 3) := by decide +kernel
theorem dl_2025 : decode code 2025 = .ok (.goto (-2007), 3) := by decide +kernel
theorem dl_2028 : decode code 2028 = .ok (.iconst 1, 1) := by decide +kernel
theorem dl_2029 : decode code 2029 = .ok (.ireturn, 1) := by decide +kernel
