/-! The law: its code, 2 -/
theorem dw_318 : decode code 318 = .ok (.iconst 3, 1) := by decide +kernel
theorem dw_319 : decode code 319 = .ok (.iadd, 1) := by decide +kernel
theorem dw_320 : decode code 320 = .ok (.iaload, 1) := by decide +kernel
theorem dw_321 : decode code 321 = .ok (.invokevirtual 44, 3) := by decide +kernel
theorem dw_324 : decode code 324 = .ok (.aload_n 2, 1) := by decide +kernel
theorem dw_325 : decode code 325 = .ok (.aload_n 0, 1) := by decide +kernel
theorem dw_326 : decode code 326 = .ok (.iload_n 3, 1) := by decide +kernel
theorem dw_327 : decode code 327 = .ok (.iconst 1, 1) := by decide +kernel
theorem dw_328 : decode code 328 = .ok (.iadd, 1) := by decide +kernel
theorem dw_329 : decode code 329 = .ok (.iaload, 1) := by decide +kernel
theorem dw_330 : decode code 330 = .ok (.aload_n 0, 1) := by decide +kernel
theorem dw_331 : decode code 331 = .ok (.iload_n 3, 1) := by decide +kernel
theorem dw_332 : decode code 332 = .ok (.iconst 2, 1) := by decide +kernel
theorem dw_333 : decode code 333 = .ok (.iadd, 1) := by decide +kernel
theorem dw_334 : decode code 334 = .ok (.iaload, 1) := by decide +kernel
theorem dw_335 : decode code 335 = .ok (.aload_n 0, 1) := by decide +kernel
theorem dw_336 : decode code 336 = .ok (.iload_n 3, 1) := by decide +kernel
theorem dw_337 : decode code 337 = .ok (.iconst 3, 1) := by decide +kernel
theorem dw_338 : decode code 338 = .ok (.iadd, 1) := by decide +kernel
theorem dw_339 : decode code 339 = .ok (.iaload, 1) := by decide +kernel
theorem dw_340 : decode code 340 = .ok (.invokevirtual 48, 3) := by decide +kernel
theorem dw_343 : decode code 343 = .ok (.if_icmp .eq 389, 3) := by decide +kernel
theorem dw_346 : decode code 346 = .ok (.iconst 0, 1) := by decide +kernel
theorem dw_347 : decode code 347 = .ok (.ireturn, 1) := by decide +kernel
theorem dw_348 : decode code 348 = .ok (.aload_n 1, 1) := by decide +kernel
theorem dw_349 : decode code 349 = .ok (.aload_n 0, 1) := by decide +kernel
theorem dw_350 : decode code 350 = .ok (.iload_n 3, 1) := by decide +kernel
theorem dw_351 : decode code 351 = .ok (.iconst 1, 1) := by decide +kernel
theorem dw_352 : decode code 352 = .ok (.iadd, 1) := by decide +kernel
theorem dw_353 : decode code 353 = .ok (.iaload, 1) := by decide +kernel
theorem dw_354 : decode code 354 = .ok (.aload_n 0, 1) := by decide +kernel
theorem dw_355 : decode code 355 = .ok (.iload_n 3, 1) := by decide +kernel
theorem dw_356 : decode code 356 = .ok (.iconst 2, 1) := by decide +kernel
theorem dw_357 : decode code 357 = .ok (.iadd, 1) := by decide +kernel
theorem dw_358 : decode code 358 = .ok (.iaload, 1) := by decide +kernel
theorem dw_359 : decode code 359 = .ok (.aload_n 0, 1) := by decide +kernel
theorem dw_360 : decode code 360 = .ok (.iload_n 3, 1) := by decide +kernel
theorem dw_361 : decode code 361 = .ok (.iconst 3, 1) := by decide +kernel
theorem dw_362 : decode code 362 = .ok (.iadd, 1) := by decide +kernel
theorem dw_363 : decode code 363 = .ok (.iaload, 1) := by decide +kernel
theorem dw_364 : decode code 364 = .ok (.aload_n 0, 1) := by decide +kernel
theorem dw_365 : decode code 365 = .ok (.iload_n 3, 1) := by decide +kernel
theorem dw_366 : decode code 366 = .ok (.iconst 4, 1) := by decide +kernel
theorem dw_367 : decode code 367 = .ok (.iadd, 1) := by decide +kernel
theorem dw_368 : decode code 368 = .ok (.iaload, 1) := by decide +kernel
theorem dw_369 : decode code 369 = .ok (.invokevirtual 49, 3) := by decide +kernel
theorem dw_372 : decode code 372 = .ok (.aload_n 2, 1) := by decide +kernel
theorem dw_373 : decode code 373 = .ok (.aload_n 0, 1) := by decide +kernel
theorem dw_374 : decode code 374 = .ok (.iload_n 3, 1) := by decide +kernel
theorem dw_375 : decode code 375 = .ok (.iconst 1, 1) := by decide +kernel
theorem dw_376 : decode code 376 = .ok (.iadd, 1) := by decide +kernel
theorem dw_377 : decode code 377 = .ok (.iaload, 1) := by decide +kernel
theorem dw_378 : decode code 378 = .ok (.aload_n 0, 1) := by decide +kernel
theorem dw_379 : decode code 379 = .ok (.iload_n 3, 1) := by decide +kernel
theorem dw_380 : decode code 380 = .ok (.iconst 2, 1) := by decide +kernel
theorem dw_381 : decode code 381 = .ok (.iadd, 1) := by decide +kernel
theorem dw_382 : decode code 382 = .ok (.iaload, 1) := by decide +kernel
theorem dw_383 : decode code 383 = .ok (.aload_n 0, 1) := by decide +kernel
theorem dw_384 : decode code 384 = .ok (.iload_n 3, 1) := by decide +kernel
theorem dw_385 : decode code 385 = .ok (.iconst 3, 1) := by decide +kernel
theorem dw_386 : decode code 386 = .ok (.iadd, 1) := by decide +kernel
theorem dw_387 : decode code 387 = .ok (.iaload, 1) := by decide +kernel
theorem dw_388 : decode code 388 = .ok (.aload_n 0, 1) := by decide +kernel
theorem dw_389 : decode code 389 = .ok (.iload_n 3, 1) := by decide +kernel
theorem dw_390 : decode code 390 = .ok (.iconst 4, 1) := by decide +kernel
theorem dw_391 : decode code 391 = .ok (.iadd, 1) := by decide +kernel
theorem dw_392 : decode code 392 = .ok (.iaload, 1) := by decide +kernel
theorem dw_393 : decode code 393 = .ok (.invokevirtual 53, 3) := by decide +kernel
theorem dw_396 : decode code 396 = .ok (.if_icmp .eq 336, 3) := by decide +kernel
theorem dw_399 : decode code 399 = .ok (.iconst 0, 1) := by decide +kernel
theorem dw_400 : decode code 400 = .ok (.ireturn, 1) := by decide +kernel
theorem dw_401 : decode code 401 = .ok (.aload_n 1, 1) := by decide +kernel
theorem dw_402 : decode code 402 = .ok (.aload_n 0, 1) := by decide +kernel
theorem dw_403 : decode code 403 = .ok (.iload_n 3, 1) := by decide +kernel
theorem dw_404 : decode code 404 = .ok (.iconst 1, 1) := by decide +kernel
theorem dw_405 : decode code 405 = .ok (.iadd, 1) := by decide +kernel
theorem dw_406 : decode code 406 = .ok (.iaload, 1) := by decide +kernel
theorem dw_407 : decode code 407 = .ok (.aload_n 0, 1) := by decide +kernel
theorem dw_408 : decode code 408 = .ok (.iload_n 3, 1) := by decide +kernel
theorem dw_409 : decode code 409 = .ok (.iconst 2, 1) := by decide +kernel
theorem dw_410 : decode code 410 = .ok (.iadd, 1) := by decide +kernel
theorem dw_411 : decode code 411 = .ok (.iaload, 1) := by decide +kernel
theorem dw_412 : decode code 412 = .ok (.aload_n 0, 1) := by decide +kernel
theorem dw_413 : decode code 413 = .ok (.iload_n 3, 1) := by decide +kernel
theorem dw_414 : decode code 414 = .ok (.iconst 3, 1) := by decide +kernel
theorem dw_415 : decode code 415 = .ok (.iadd, 1) := by decide +kernel
theorem dw_416 : decode code 416 = .ok (.iaload, 1) := by decide +kernel
theorem dw_417 : decode code 417 = .ok (.aload_n 0, 1) := by decide +kernel
theorem dw_418 : decode code 418 = .ok (.iload_n 3, 1) := by decide +kernel
theorem dw_419 : decode code 419 = .ok (.iconst 4, 1) := by decide +kernel
theorem dw_420 : decode code 420 = .ok (.iadd, 1) := by decide +kernel
theorem dw_421 : decode code 421 = .ok (.iaload, 1) := by decide +kernel
theorem dw_422 : decode code 422 = .ok (.invokevirtual 54, 3) := by decide +kernel
theorem dw_425 : decode code 425 = .ok (.aload_n 2, 1) := by decide +kernel
theorem dw_426 : decode code 426 = .ok (.aload_n 0, 1) := by decide +kernel
theorem dw_427 : decode code 427 = .ok (.iload_n 3, 1) := by decide +kernel
theorem dw_428 : decode code 428 = .ok (.iconst 1, 1) := by decide +kernel
theorem dw_429 : decode code 429 = .ok (.iadd, 1) := by decide +kernel
theorem dw_430 : decode code 430 = .ok (.iaload, 1) := by decide +kernel
theorem dw_431 : decode code 431 = .ok (.aload_n 0, 1) := by decide +kernel
theorem dw_432 : decode code 432 = .ok (.iload_n 3, 1) := by decide +kernel
theorem dw_433 : decode code 433 = .ok (.iconst 2, 1) := by decide +kernel
theorem dw_434 : decode code 434 = .ok (.iadd, 1) := by decide +kernel
theorem dw_435 : decode code 435 = .ok (.iaload, 1) := by decide +kernel
theorem dw_436 : decode code 436 = .ok (.aload_n 0, 1) := by decide +kernel
theorem dw_437 : decode code 437 = .ok (.iload_n 3, 1) := by decide +kernel
theorem dw_438 : decode code 438 = .ok (.iconst 3, 1) := by decide +kernel
theorem dw_439 : decode code 439 = .ok (.iadd, 1) := by decide +kernel
theorem dw_440 : decode code 440 = .ok (.iaload, 1) := by decide +kernel
theorem dw_441 : decode code 441 = .ok (.aload_n 0, 1) := by decide +kernel
theorem dw_442 : decode code 442 = .ok (.iload_n 3, 1) := by decide +kernel
theorem dw_443 : decode code 443 = .ok (.iconst 4, 1) := by decide +kernel
theorem dw_444 : decode code 444 = .ok (.iadd, 1) := by decide +kernel
theorem dw_445 : decode code 445 = .ok (.iaload, 1) := by decide +kernel
theorem dw_446 : decode code 446 = .ok (.invokevirtual 57, 3) := by decide +kernel
theorem dw_449 : decode code 449 = .ok (.if_icmp .eq 283, 3) := by decide +kernel
theorem dw_452 : decode code 452 = .ok (.iconst 0, 1) := by decide +kernel
theorem dw_453 : decode code 453 = .ok (.ireturn, 1) := by decide +kernel
theorem dw_454 : decode code 454 = .ok (.aload_n 1, 1) := by decide +kernel
theorem dw_455 : decode code 455 = .ok (.aload_n 0, 1) := by decide +kernel
theorem dw_456 : decode code 456 = .ok (.iload_n 3, 1) := by decide +kernel
theorem dw_457 : decode code 457 = .ok (.iconst 1, 1) := by decide +kernel
theorem dw_458 : decode code 458 = .ok (.iadd, 1) := by decide +kernel
theorem dw_459 : decode code 459 = .ok (.iaload, 1) := by decide +kernel
theorem dw_460 : decode code 460 = .ok (.aload_n 0, 1) := by decide +kernel
theorem dw_461 : decode code 461 = .ok (.iload_n 3, 1) := by decide +kernel
theorem dw_462 : decode code 462 = .ok (.iconst 2, 1) := by decide +kernel
theorem dw_463 : decode code 463 = .ok (.iadd, 1) := by decide +kernel
theorem dw_464 : decode code 464 = .ok (.iaload, 1) := by decide +kernel
theorem dw_465 : decode code 465 = .ok (.invokevirtual 58, 3) := by decide +kernel
theorem dw_468 : decode code 468 = .ok (.aload_n 2, 1) := by decide +kernel
theorem dw_469 : decode code 469 = .ok (.aload_n 0, 1) := by decide +kernel
theorem dw_470 : decode code 470 = .ok (.iload_n 3, 1) := by decide +kernel
theorem dw_471 : decode code 471 = .ok (.iconst 1, 1) := by decide +kernel
theorem dw_472 : decode code 472 = .ok (.iadd, 1) := by decide +kernel
theorem dw_473 : decode code 473 = .ok (.iaload, 1) := by decide +kernel
theorem dw_474 : decode code 474 = .ok (.aload_n 0, 1) := by decide +kernel
theorem dw_475 : decode code 475 = .ok (.iload_n 3, 1) := by decide +kernel
theorem dw_476 : decode code 476 = .ok (.iconst 2, 1) := by decide +kernel
theorem dw_477 : decode code 477 = .ok (.iadd, 1) := by decide +kernel
theorem dw_478 : decode code 478 = .ok (.iaload, 1) := by decide +kernel
theorem dw_479 : decode code 479 = .ok (.invokevirtual 61, 3) := by decide +kernel
theorem dw_482 : decode code 482 = .ok (.if_icmp .eq 250, 3) := by decide +kernel
theorem dw_485 : decode code 485 = .ok (.iconst 0, 1) := by decide +kernel
theorem dw_486 : decode code 486 = .ok (.ireturn, 1) := by decide +kernel
theorem dw_487 : decode code 487 = .ok (.aload_n 1, 1) := by decide +kernel
theorem dw_488 : decode code 488 = .ok (.aload_n 0, 1) := by decide +kernel
theorem dw_489 : decode code 489 = .ok (.iload_n 3, 1) := by decide +kernel
theorem dw_490 : decode code 490 = .ok (.iconst 1, 1) := by decide +kernel
theorem dw_491 : decode code 491 = .ok (.iadd, 1) := by decide +kernel
theorem dw_492 : decode code 492 = .ok (.iaload, 1) := by decide +kernel
theorem dw_493 : decode code 493 = .ok (.aload_n 0, 1) := by decide +kernel
theorem dw_494 : decode code 494 = .ok (.iload_n 3, 1) := by decide +kernel
theorem dw_495 : decode code 495 = .ok (.iconst 2, 1) := by decide +kernel
theorem dw_496 : decode code 496 = .ok (.iadd, 1) := by decide +kernel
theorem dw_497 : decode code 497 = .ok (.iaload, 1) := by decide +kernel
theorem dw_498 : decode code 498 = .ok (.aload_n 0, 1) := by decide +kernel
theorem dw_499 : decode code 499 = .ok (.iload_n 3, 1) := by decide +kernel
theorem dw_500 : decode code 500 = .ok (.iconst 3, 1) := by decide +kernel
theorem dw_501 : decode code 501 = .ok (.iadd, 1) := by decide +kernel
theorem dw_502 : decode code 502 = .ok (.iaload, 1) := by decide +kernel
theorem dw_503 : decode code 503 = .ok (.aload_n 0, 1) := by decide +kernel
theorem dw_504 : decode code 504 = .ok (.iload_n 3, 1) := by decide +kernel
theorem dw_505 : decode code 505 = .ok (.iconst 4, 1) := by decide +kernel
theorem dw_506 : decode code 506 = .ok (.iadd, 1) := by decide +kernel
theorem dw_507 : decode code 507 = .ok (.iaload, 1) := by decide +kernel
theorem dw_508 : decode code 508 = .ok (.invokevirtual 62, 3) := by decide +kernel
theorem dw_511 : decode code 511 = .ok (.aload_n 2, 1) := by decide +kernel
theorem dw_512 : decode code 512 = .ok (.aload_n 0, 1) := by decide +kernel
theorem dw_513 : decode code 513 = .ok (.iload_n 3, 1) := by decide +kernel
theorem dw_514 : decode code 514 = .ok (.iconst 1, 1) := by decide +kernel
theorem dw_515 : decode code 515 = .ok (.iadd, 1) := by decide +kernel
theorem dw_516 : decode code 516 = .ok (.iaload, 1) := by decide +kernel
theorem dw_517 : decode code 517 = .ok (.aload_n 0, 1) := by decide +kernel
