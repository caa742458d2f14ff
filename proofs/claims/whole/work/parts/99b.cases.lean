/-! the law: the 65 cases -/
section CS
variable {Z : lw_X} {N i : Nat} {Mc Mr : sg_M}
theorem cs0 (C : lw_C Z) (hN : 1000 ≤ N) (hi : i + 6 ≤ lw_L Z) (hCR : CR Mc Mr) (nx : ∀ Mc Mr, CR Mc Mr → lw_T Z 1865 (lwv Z i) [] Mc Mr) : lw_T Z 308 (lwv Z i) [] Mc Mr := by
  obtain ⟨a, Mc1, Mr1, e1, e2, hc⟩ := d_feed (N := N) (x1 := lw_s Z (i + 1)) (x2 := lw_s Z (i + 2)) (x3 := lw_s Z (i + 3)) (x4 := lw_s Z (i + 4)) (x5 := lw_s Z (i + 5)) hN Mc Mr hCR
  refine L_al (pc := 308) C 2 rfl rfl dL_law_308 ?_
  refine L_arg (pc := 309) C 1 hi (by omega) (by decide) dL_law_309 dL_law_310 dL_law_311 dL_law_312 dL_law_313 ?_
  refine L_arg (pc := 314) C 2 hi (by omega) (by decide) dL_law_314 dL_law_315 dL_law_316 dL_law_317 dL_law_318 ?_
  refine L_arg (pc := 319) C 3 hi (by omega) (by decide) dL_law_319 dL_law_320 dL_law_321 dL_law_322 dL_law_323 ?_
  refine L_arg (pc := 324) C 4 hi (by omega) (by decide) dL_law_324 dL_law_325 dL_law_326 dL_law_327 dL_law_328 ?_
  refine L_arg (pc := 329) C 5 hi (by omega) (by decide) dL_law_329 dL_law_330 dL_law_331 dL_law_332 dL_law_333 ?_
  refine L_cI (pc := 334) C [.int (lw_s Z (i + 1)), .int (lw_s Z (i + 2)), .int (lw_s Z (i + 3)), .int (lw_s Z (i + 4)), .int (lw_s Z (i + 5))] vmX10_feed lkL_13 rfl rfl rfl (Nat.le_of_ble_eq_true rfl) (by decide) dL_law_334 (ctX10_feed (lw_inj C).1 K0 _ e1) ?_
  refine L_al (pc := 337) C 1 rfl rfl dL_law_337 ?_
  refine L_arg (pc := 338) C 1 hi (by omega) (by decide) dL_law_338 dL_law_339 dL_law_340 dL_law_341 dL_law_342 ?_
  refine L_arg (pc := 343) C 2 hi (by omega) (by decide) dL_law_343 dL_law_344 dL_law_345 dL_law_346 dL_law_347 ?_
  refine L_arg (pc := 348) C 3 hi (by omega) (by decide) dL_law_348 dL_law_349 dL_law_350 dL_law_351 dL_law_352 ?_
  refine L_arg (pc := 353) C 4 hi (by omega) (by decide) dL_law_353 dL_law_354 dL_law_355 dL_law_356 dL_law_357 ?_
  refine L_arg (pc := 358) C 5 hi (by omega) (by decide) dL_law_358 dL_law_359 dL_law_360 dL_law_361 dL_law_362 ?_
  refine L_rI (pc := 363) C [.int (lw_s Z (i + 1)), .int (lw_s Z (i + 2)), .int (lw_s Z (i + 3)), .int (lw_s Z (i + 4)), .int (lw_s Z (i + 5))] vmX11_feed lkL_17 rfl rfl rfl (Nat.le_of_ble_eq_true rfl) (by decide) dL_law_363 (ctX11_feed (lw_inj C).2 Kr0 _ e2) ?_
  exact L_eqI (pc := 366) (tgt := 1865) C dL_law_366 (by decide) (nx _ _ hc)
theorem cs1 (C : lw_C Z) (hN : 1000 ≤ N) (hi : i + 6 ≤ lw_L Z) (hCR : CR Mc Mr) (nx : ∀ Mc Mr, CR Mc Mr → lw_T Z 1865 (lwv Z i) [] Mc Mr) : lw_T Z 371 (lwv Z i) [] Mc Mr := by
  obtain ⟨a, Mc1, Mr1, e1, e2, hc⟩ := d_end (N := N) (x := lw_s Z (i + 1)) Mc Mr hCR
  refine L_al (pc := 371) C 2 rfl rfl dL_law_371 ?_
  refine L_arg (pc := 372) C 1 hi (by omega) (by decide) dL_law_372 dL_law_373 dL_law_374 dL_law_375 dL_law_376 ?_
  refine L_cI (pc := 377) C [.int (lw_s Z (i + 1))] vmX10_end lkL_18 rfl rfl rfl (Nat.le_of_ble_eq_true rfl) (by decide) dL_law_377 (ctX10_end (lw_inj C).1 K0 _ e1) ?_
  refine L_al (pc := 380) C 1 rfl rfl dL_law_380 ?_
  refine L_arg (pc := 381) C 1 hi (by omega) (by decide) dL_law_381 dL_law_382 dL_law_383 dL_law_384 dL_law_385 ?_
  refine L_rI (pc := 386) C [.int (lw_s Z (i + 1))] vmX11_end lkL_22 rfl rfl rfl (Nat.le_of_ble_eq_true rfl) (by decide) dL_law_386 (ctX11_end (lw_inj C).2 Kr0 _ e2) ?_
  exact L_eqI (pc := 389) (tgt := 1865) C dL_law_389 (by decide) (nx _ _ hc)
theorem cs2 (C : lw_C Z) (hN : 1000 ≤ N) (hi : i + 6 ≤ lw_L Z) (hCR : CR Mc Mr) (nx : ∀ Mc Mr, CR Mc Mr → lw_T Z 1865 (lwv Z i) [] Mc Mr) : lw_T Z 394 (lwv Z i) [] Mc Mr := by
  obtain ⟨a, Mc1, Mr1, e1, e2, hc⟩ := d_grid (N := N)  hN Mc Mr hCR
  refine L_al (pc := 394) C 2 rfl rfl dL_law_394 ?_
  refine L_cI (pc := 395) C [] vmX10_grid lkL_23 rfl rfl rfl (Nat.le_of_ble_eq_true rfl) (by decide) dL_law_395 (ctX10_grid (lw_inj C).1 K0 _ e1) ?_
  refine L_al (pc := 398) C 1 rfl rfl dL_law_398 ?_
  refine L_rI (pc := 399) C [] vmX11_grid lkL_27 rfl rfl rfl (Nat.le_of_ble_eq_true rfl) (by decide) dL_law_399 (ctX11_grid (lw_inj C).2 Kr0 _ e2) ?_
  exact L_eqI (pc := 402) (tgt := 1865) C dL_law_402 (by decide) (nx _ _ hc)
theorem cs3 (C : lw_C Z) (hN : 1000 ≤ N) (hi : i + 6 ≤ lw_L Z) (hCR : CR Mc Mr) (nx : ∀ Mc Mr, CR Mc Mr → lw_T Z 1865 (lwv Z i) [] Mc Mr) : lw_T Z 407 (lwv Z i) [] Mc Mr := by
  obtain ⟨a, Mc1, Mr1, e1, e2, hc⟩ := d_fault (N := N) (x := lw_s Z (i + 1)) Mc Mr hCR
  refine L_al (pc := 407) C 2 rfl rfl dL_law_407 ?_
  refine L_arg (pc := 408) C 1 hi (by omega) (by decide) dL_law_408 dL_law_409 dL_law_410 dL_law_411 dL_law_412 ?_
  refine L_cI (pc := 413) C [.int (lw_s Z (i + 1))] vmX10_fault lkL_28 rfl rfl rfl (Nat.le_of_ble_eq_true rfl) (by decide) dL_law_413 (ctX10_fault (lw_inj C).1 K0 _ e1) ?_
  refine L_al (pc := 416) C 1 rfl rfl dL_law_416 ?_
  refine L_arg (pc := 417) C 1 hi (by omega) (by decide) dL_law_417 dL_law_418 dL_law_419 dL_law_420 dL_law_421 ?_
  refine L_rI (pc := 422) C [.int (lw_s Z (i + 1))] vmX11_fault lkL_31 rfl rfl rfl (Nat.le_of_ble_eq_true rfl) (by decide) dL_law_422 (ctX11_fault (lw_inj C).2 Kr0 _ e2) ?_
  exact L_eqI (pc := 425) (tgt := 1865) C dL_law_425 (by decide) (nx _ _ hc)
theorem cs4 (C : lw_C Z) (hN : 1000 ≤ N) (hi : i + 6 ≤ lw_L Z) (hCR : CR Mc Mr) (nx : ∀ Mc Mr, CR Mc Mr → lw_T Z 1865 (lwv Z i) [] Mc Mr) : lw_T Z 430 (lwv Z i) [] Mc Mr := by
  obtain ⟨a, Mc1, Mr1, e1, e2, hc⟩ := d_count (N := N) (x := lw_s Z (i + 1)) hN Mc Mr hCR
  refine L_al (pc := 430) C 2 rfl rfl dL_law_430 ?_
  refine L_arg (pc := 431) C 1 hi (by omega) (by decide) dL_law_431 dL_law_432 dL_law_433 dL_law_434 dL_law_435 ?_
  refine L_cI (pc := 436) C [.int (lw_s Z (i + 1))] vmX10_count lkL_32 rfl rfl rfl (Nat.le_of_ble_eq_true rfl) (by decide) dL_law_436 (ctX10_count (lw_inj C).1 K0 _ e1) ?_
  refine L_al (pc := 439) C 1 rfl rfl dL_law_439 ?_
  refine L_arg (pc := 440) C 1 hi (by omega) (by decide) dL_law_440 dL_law_441 dL_law_442 dL_law_443 dL_law_444 ?_
  refine L_rI (pc := 445) C [.int (lw_s Z (i + 1))] vmX11_count lkL_35 rfl rfl rfl (Nat.le_of_ble_eq_true rfl) (by decide) dL_law_445 (ctX11_count (lw_inj C).2 Kr0 _ e2) ?_
  exact L_eqI (pc := 448) (tgt := 1865) C dL_law_448 (by decide) (nx _ _ hc)
theorem cs5 (C : lw_C Z) (hN : 1000 ≤ N) (hi : i + 6 ≤ lw_L Z) (hCR : CR Mc Mr) (nx : ∀ Mc Mr, CR Mc Mr → lw_T Z 1865 (lwv Z i) [] Mc Mr) : lw_T Z 453 (lwv Z i) [] Mc Mr := by
  obtain ⟨a, Mc1, Mr1, e1, e2, hc⟩ := d_strap (N := N) (x := lw_s Z (i + 1)) (y := lw_s Z (i + 2)) hN Mc Mr hCR
  refine L_al (pc := 453) C 2 rfl rfl dL_law_453 ?_
  refine L_arg (pc := 454) C 1 hi (by omega) (by decide) dL_law_454 dL_law_455 dL_law_456 dL_law_457 dL_law_458 ?_
  refine L_arg (pc := 459) C 2 hi (by omega) (by decide) dL_law_459 dL_law_460 dL_law_461 dL_law_462 dL_law_463 ?_
  refine L_cI (pc := 464) C [.int (lw_s Z (i + 1)), .int (lw_s Z (i + 2))] vmX10_strap lkL_36 rfl rfl rfl (Nat.le_of_ble_eq_true rfl) (by decide) dL_law_464 (ctX10_strap (lw_inj C).1 K0 _ e1) ?_
  refine L_al (pc := 467) C 1 rfl rfl dL_law_467 ?_
  refine L_arg (pc := 468) C 1 hi (by omega) (by decide) dL_law_468 dL_law_469 dL_law_470 dL_law_471 dL_law_472 ?_
  refine L_arg (pc := 473) C 2 hi (by omega) (by decide) dL_law_473 dL_law_474 dL_law_475 dL_law_476 dL_law_477 ?_
  refine L_rI (pc := 478) C [.int (lw_s Z (i + 1)), .int (lw_s Z (i + 2))] vmX11_strap lkL_40 rfl rfl rfl (Nat.le_of_ble_eq_true rfl) (by decide) dL_law_478 (ctX11_strap (lw_inj C).2 Kr0 _ e2) ?_
  exact L_eqI (pc := 481) (tgt := 1865) C dL_law_481 (by decide) (nx _ _ hc)
theorem cs6 (C : lw_C Z) (hN : 1000 ≤ N) (hi : i + 6 ≤ lw_L Z) (hCR : CR Mc Mr) (nx : ∀ Mc Mr, CR Mc Mr → lw_T Z 1865 (lwv Z i) [] Mc Mr) : lw_T Z 486 (lwv Z i) [] Mc Mr := by
  obtain ⟨a, Mc1, Mr1, e1, e2, hc⟩ := d_between (N := N) (x := lw_s Z (i + 1)) (y := lw_s Z (i + 2)) hN Mc Mr hCR
  refine L_al (pc := 486) C 2 rfl rfl dL_law_486 ?_
  refine L_arg (pc := 487) C 1 hi (by omega) (by decide) dL_law_487 dL_law_488 dL_law_489 dL_law_490 dL_law_491 ?_
  refine L_arg (pc := 492) C 2 hi (by omega) (by decide) dL_law_492 dL_law_493 dL_law_494 dL_law_495 dL_law_496 ?_
  refine L_cI (pc := 497) C [.int (lw_s Z (i + 1)), .int (lw_s Z (i + 2))] vmX10_between lkL_41 rfl rfl rfl (Nat.le_of_ble_eq_true rfl) (by decide) dL_law_497 (ctX10_between (lw_inj C).1 K0 _ e1) ?_
  refine L_al (pc := 500) C 1 rfl rfl dL_law_500 ?_
  refine L_arg (pc := 501) C 1 hi (by omega) (by decide) dL_law_501 dL_law_502 dL_law_503 dL_law_504 dL_law_505 ?_
  refine L_arg (pc := 506) C 2 hi (by omega) (by decide) dL_law_506 dL_law_507 dL_law_508 dL_law_509 dL_law_510 ?_
  refine L_rI (pc := 511) C [.int (lw_s Z (i + 1)), .int (lw_s Z (i + 2))] vmX11_between lkL_44 rfl rfl rfl (Nat.le_of_ble_eq_true rfl) (by decide) dL_law_511 (ctX11_between (lw_inj C).2 Kr0 _ e2) ?_
  exact L_eqI (pc := 514) (tgt := 1865) C dL_law_514 (by decide) (nx _ _ hc)
theorem cs7 (C : lw_C Z) (hN : 1000 ≤ N) (hi : i + 6 ≤ lw_L Z) (hCR : CR Mc Mr) (nx : ∀ Mc Mr, CR Mc Mr → lw_T Z 1865 (lwv Z i) [] Mc Mr) : lw_T Z 519 (lwv Z i) [] Mc Mr := by
  obtain ⟨a, Mc1, Mr1, e1, e2, hc⟩ := d_node (N := N) (x := lw_s Z (i + 1)) (y := lw_s Z (i + 2)) hN Mc Mr hCR
  refine L_al (pc := 519) C 2 rfl rfl dL_law_519 ?_
  refine L_arg (pc := 520) C 1 hi (by omega) (by decide) dL_law_520 dL_law_521 dL_law_522 dL_law_523 dL_law_524 ?_
  refine L_arg (pc := 525) C 2 hi (by omega) (by decide) dL_law_525 dL_law_526 dL_law_527 dL_law_528 dL_law_529 ?_
  refine L_cI (pc := 530) C [.int (lw_s Z (i + 1)), .int (lw_s Z (i + 2))] vmX10_node lkL_45 rfl rfl rfl (Nat.le_of_ble_eq_true rfl) (by decide) dL_law_530 (ctX10_node (lw_inj C).1 K0 _ e1) ?_
  refine L_al (pc := 533) C 1 rfl rfl dL_law_533 ?_
  refine L_arg (pc := 534) C 1 hi (by omega) (by decide) dL_law_534 dL_law_535 dL_law_536 dL_law_537 dL_law_538 ?_
  refine L_arg (pc := 539) C 2 hi (by omega) (by decide) dL_law_539 dL_law_540 dL_law_541 dL_law_542 dL_law_543 ?_
  refine L_rI (pc := 544) C [.int (lw_s Z (i + 1)), .int (lw_s Z (i + 2))] vmX11_node lkL_48 rfl rfl rfl (Nat.le_of_ble_eq_true rfl) (by decide) dL_law_544 (ctX11_node (lw_inj C).2 Kr0 _ e2) ?_
  exact L_eqI (pc := 547) (tgt := 1865) C dL_law_547 (by decide) (nx _ _ hc)
theorem cs8 (C : lw_C Z) (hN : 1000 ≤ N) (hi : i + 6 ≤ lw_L Z) (hCR : CR Mc Mr) (nx : ∀ Mc Mr, CR Mc Mr → lw_T Z 1865 (lwv Z i) [] Mc Mr) : lw_T Z 552 (lwv Z i) [] Mc Mr := by
  obtain ⟨a, Mc1, Mr1, e1, e2, hc⟩ := d_budget (N := N) (x := lw_s Z (i + 1)) hN Mc Mr hCR
  refine L_al (pc := 552) C 2 rfl rfl dL_law_552 ?_
  refine L_arg (pc := 553) C 1 hi (by omega) (by decide) dL_law_553 dL_law_554 dL_law_555 dL_law_556 dL_law_557 ?_
  refine L_cI (pc := 558) C [.int (lw_s Z (i + 1))] vmX10_budget lkL_49 rfl rfl rfl (Nat.le_of_ble_eq_true rfl) (by decide) dL_law_558 (ctX10_budget (lw_inj C).1 K0 _ e1) ?_
  refine L_al (pc := 561) C 1 rfl rfl dL_law_561 ?_
  refine L_arg (pc := 562) C 1 hi (by omega) (by decide) dL_law_562 dL_law_563 dL_law_564 dL_law_565 dL_law_566 ?_
  refine L_rI (pc := 567) C [.int (lw_s Z (i + 1))] vmX11_budget lkL_52 rfl rfl rfl (Nat.le_of_ble_eq_true rfl) (by decide) dL_law_567 (ctX11_budget (lw_inj C).2 Kr0 _ e2) ?_
  exact L_eqI (pc := 570) (tgt := 1865) C dL_law_570 (by decide) (nx _ _ hc)
theorem cs9 (C : lw_C Z) (hN : 1000 ≤ N) (hi : i + 6 ≤ lw_L Z) (hCR : CR Mc Mr) (nx : ∀ Mc Mr, CR Mc Mr → lw_T Z 1865 (lwv Z i) [] Mc Mr) : lw_T Z 575 (lwv Z i) [] Mc Mr := by
  obtain ⟨a, Mc1, Mr1, e1, e2, hc⟩ := d_drop (N := N) (x := lw_s Z (i + 1)) (y := lw_s Z (i + 2)) hN Mc Mr hCR
  refine L_al (pc := 575) C 2 rfl rfl dL_law_575 ?_
  refine L_arg (pc := 576) C 1 hi (by omega) (by decide) dL_law_576 dL_law_577 dL_law_578 dL_law_579 dL_law_580 ?_
  refine L_arg (pc := 581) C 2 hi (by omega) (by decide) dL_law_581 dL_law_582 dL_law_583 dL_law_584 dL_law_585 ?_
  refine L_cL (pc := 586) C [.int (lw_s Z (i + 1)), .int (lw_s Z (i + 2))] vmX10_drop lkL_53 rfl rfl rfl (Nat.le_of_ble_eq_true rfl) (by decide) dL_law_586 (ctX10_drop (lw_inj C).1 K0 _ e1) ?_
  refine L_al (pc := 589) C 1 rfl rfl dL_law_589 ?_
  refine L_arg (pc := 590) C 1 hi (by omega) (by decide) dL_law_590 dL_law_591 dL_law_592 dL_law_593 dL_law_594 ?_
  refine L_arg (pc := 595) C 2 hi (by omega) (by decide) dL_law_595 dL_law_596 dL_law_597 dL_law_598 dL_law_599 ?_
  refine L_rL (pc := 600) C [.int (lw_s Z (i + 1)), .int (lw_s Z (i + 2))] vmX11_drop lkL_57 rfl rfl rfl (Nat.le_of_ble_eq_true rfl) (by decide) dL_law_600 (ctX11_drop (lw_inj C).2 Kr0 _ e2) ?_
  exact L_eqL (pc := 603) (tgt := 1865) C dL_law_603 dL_law_604 (by decide) (nx _ _ hc)
theorem cs10 (C : lw_C Z) (hN : 1000 ≤ N) (hi : i + 6 ≤ lw_L Z) (hCR : CR Mc Mr) (nx : ∀ Mc Mr, CR Mc Mr → lw_T Z 1865 (lwv Z i) [] Mc Mr) : lw_T Z 609 (lwv Z i) [] Mc Mr := by
  obtain ⟨a, Mc1, Mr1, e1, e2, hc⟩ := d_through (N := N) (x := lw_s Z (i + 1)) (y := lw_s Z (i + 2)) hN Mc Mr hCR
  refine L_al (pc := 609) C 2 rfl rfl dL_law_609 ?_
  refine L_arg (pc := 610) C 1 hi (by omega) (by decide) dL_law_610 dL_law_611 dL_law_612 dL_law_613 dL_law_614 ?_
  refine L_arg (pc := 615) C 2 hi (by omega) (by decide) dL_law_615 dL_law_616 dL_law_617 dL_law_618 dL_law_619 ?_
  refine L_cL (pc := 620) C [.int (lw_s Z (i + 1)), .int (lw_s Z (i + 2))] vmX10_through lkL_58 rfl rfl rfl (Nat.le_of_ble_eq_true rfl) (by decide) dL_law_620 (ctX10_through (lw_inj C).1 K0 _ e1) ?_
  refine L_al (pc := 623) C 1 rfl rfl dL_law_623 ?_
  refine L_arg (pc := 624) C 1 hi (by omega) (by decide) dL_law_624 dL_law_625 dL_law_626 dL_law_627 dL_law_628 ?_
  refine L_arg (pc := 629) C 2 hi (by omega) (by decide) dL_law_629 dL_law_630 dL_law_631 dL_law_632 dL_law_633 ?_
  refine L_rL (pc := 634) C [.int (lw_s Z (i + 1)), .int (lw_s Z (i + 2))] vmX11_through lkL_61 rfl rfl rfl (Nat.le_of_ble_eq_true rfl) (by decide) dL_law_634 (ctX11_through (lw_inj C).2 Kr0 _ e2) ?_
  exact L_eqL (pc := 637) (tgt := 1865) C dL_law_637 dL_law_638 (by decide) (nx _ _ hc)
theorem cs11 (C : lw_C Z) (hN : 1000 ≤ N) (hi : i + 6 ≤ lw_L Z) (hCR : CR Mc Mr) (nx : ∀ Mc Mr, CR Mc Mr → lw_T Z 1865 (lwv Z i) [] Mc Mr) : lw_T Z 643 (lwv Z i) [] Mc Mr := by
  obtain ⟨a, Mc1, Mr1, e1, e2, hc⟩ := d_gives (N := N) (x := lw_s Z (i + 1)) (y := lw_s Z (i + 2)) hN Mc Mr hCR
  refine L_al (pc := 643) C 2 rfl rfl dL_law_643 ?_
  refine L_arg (pc := 644) C 1 hi (by omega) (by decide) dL_law_644 dL_law_645 dL_law_646 dL_law_647 dL_law_648 ?_
  refine L_arg (pc := 649) C 2 hi (by omega) (by decide) dL_law_649 dL_law_650 dL_law_651 dL_law_652 dL_law_653 ?_
  refine L_cL (pc := 654) C [.int (lw_s Z (i + 1)), .int (lw_s Z (i + 2))] vmX10_gives lkL_62 rfl rfl rfl (Nat.le_of_ble_eq_true rfl) (by decide) dL_law_654 (ctX10_gives (lw_inj C).1 K0 _ e1) ?_
  refine L_al (pc := 657) C 1 rfl rfl dL_law_657 ?_
  refine L_arg (pc := 658) C 1 hi (by omega) (by decide) dL_law_658 dL_law_659 dL_law_660 dL_law_661 dL_law_662 ?_
  refine L_arg (pc := 663) C 2 hi (by omega) (by decide) dL_law_663 dL_law_664 dL_law_665 dL_law_666 dL_law_667 ?_
  refine L_rL (pc := 668) C [.int (lw_s Z (i + 1)), .int (lw_s Z (i + 2))] vmX11_gives lkL_65 rfl rfl rfl (Nat.le_of_ble_eq_true rfl) (by decide) dL_law_668 (ctX11_gives (lw_inj C).2 Kr0 _ e2) ?_
  exact L_eqL (pc := 671) (tgt := 1865) C dL_law_671 dL_law_672 (by decide) (nx _ _ hc)
theorem cs12 (C : lw_C Z) (hN : 1000 ≤ N) (hi : i + 6 ≤ lw_L Z) (hCR : CR Mc Mr) (nx : ∀ Mc Mr, CR Mc Mr → lw_T Z 1865 (lwv Z i) [] Mc Mr) : lw_T Z 677 (lwv Z i) [] Mc Mr := by
  obtain ⟨a, Mc1, Mr1, e1, e2, hc⟩ := d_chief (N := N)  hN Mc Mr hCR
  refine L_al (pc := 677) C 2 rfl rfl dL_law_677 ?_
  refine L_cI (pc := 678) C [] vmX10_chief lkL_66 rfl rfl rfl (Nat.le_of_ble_eq_true rfl) (by decide) dL_law_678 (ctX10_chief (lw_inj C).1 K0 _ e1) ?_
  refine L_al (pc := 681) C 1 rfl rfl dL_law_681 ?_
  refine L_rI (pc := 682) C [] vmX11_chief lkL_69 rfl rfl rfl (Nat.le_of_ble_eq_true rfl) (by decide) dL_law_682 (ctX11_chief (lw_inj C).2 Kr0 _ e2) ?_
  exact L_eqI (pc := 685) (tgt := 1865) C dL_law_685 (by decide) (nx _ _ hc)
theorem cs13 (C : lw_C Z) (hN : 1000 ≤ N) (hi : i + 6 ≤ lw_L Z) (hCR : CR Mc Mr) (nx : ∀ Mc Mr, CR Mc Mr → lw_T Z 1865 (lwv Z i) [] Mc Mr) : lw_T Z 690 (lwv Z i) [] Mc Mr := by
  obtain ⟨a, Mc1, Mr1, e1, e2, hc⟩ := d_area (N := N)  hN Mc Mr hCR
  refine L_al (pc := 690) C 2 rfl rfl dL_law_690 ?_
  refine L_cI (pc := 691) C [] vmX10_area lkL_70 rfl rfl rfl (Nat.le_of_ble_eq_true rfl) (by decide) dL_law_691 (ctX10_area (lw_inj C).1 K0 _ e1) ?_
  refine L_al (pc := 694) C 1 rfl rfl dL_law_694 ?_
  refine L_rI (pc := 695) C [] vmX11_area lkL_73 rfl rfl rfl (Nat.le_of_ble_eq_true rfl) (by decide) dL_law_695 (ctX11_area (lw_inj C).2 Kr0 _ e2) ?_
  exact L_eqI (pc := 698) (tgt := 1865) C dL_law_698 (by decide) (nx _ _ hc)
theorem cs14 (C : lw_C Z) (hN : 1000 ≤ N) (hi : i + 6 ≤ lw_L Z) (hCR : CR Mc Mr) (nx : ∀ Mc Mr, CR Mc Mr → lw_T Z 1865 (lwv Z i) [] Mc Mr) : lw_T Z 703 (lwv Z i) [] Mc Mr := by
  obtain ⟨a, Mc1, Mr1, e1, e2, hc⟩ := d_worst (N := N)  hN Mc Mr hCR
  refine L_al (pc := 703) C 2 rfl rfl dL_law_703 ?_
  refine L_cI (pc := 704) C [] vmX10_worst lkL_74 rfl rfl rfl (Nat.le_of_ble_eq_true rfl) (by decide) dL_law_704 (ctX10_worst (lw_inj C).1 K0 _ e1) ?_
  refine L_al (pc := 707) C 1 rfl rfl dL_law_707 ?_
  refine L_rI (pc := 708) C [] vmX11_worst lkL_77 rfl rfl rfl (Nat.le_of_ble_eq_true rfl) (by decide) dL_law_708 (ctX11_worst (lw_inj C).2 Kr0 _ e2) ?_
  exact L_eqI (pc := 711) (tgt := 1865) C dL_law_711 (by decide) (nx _ _ hc)
theorem cs15 (C : lw_C Z) (hN : 1000 ≤ N) (hi : i + 6 ≤ lw_L Z) (hCR : CR Mc Mr) (nx : ∀ Mc Mr, CR Mc Mr → lw_T Z 1865 (lwv Z i) [] Mc Mr) : lw_T Z 716 (lwv Z i) [] Mc Mr := by
  obtain ⟨a, Mc1, Mr1, e1, e2, hc⟩ := d_over (N := N)  hN Mc Mr hCR
  refine L_al (pc := 716) C 2 rfl rfl dL_law_716 ?_
  refine L_cI (pc := 717) C [] vmX10_over lkL_78 rfl rfl rfl (Nat.le_of_ble_eq_true rfl) (by decide) dL_law_717 (ctX10_over (lw_inj C).1 K0 _ e1) ?_
  refine L_al (pc := 720) C 1 rfl rfl dL_law_720 ?_
  refine L_rI (pc := 721) C [] vmX11_over lkL_81 rfl rfl rfl (Nat.le_of_ble_eq_true rfl) (by decide) dL_law_721 (ctX11_over (lw_inj C).2 Kr0 _ e2) ?_
  exact L_eqI (pc := 724) (tgt := 1865) C dL_law_724 (by decide) (nx _ _ hc)
theorem cs16 (C : lw_C Z) (hN : 1000 ≤ N) (hi : i + 6 ≤ lw_L Z) (hCR : CR Mc Mr) (nx : ∀ Mc Mr, CR Mc Mr → lw_T Z 1865 (lwv Z i) [] Mc Mr) : lw_T Z 729 (lwv Z i) [] Mc Mr := by
  obtain ⟨a, Mc1, Mr1, e1, e2, hc⟩ := d_holds (N := N)  hN Mc Mr hCR
  refine L_al (pc := 729) C 2 rfl rfl dL_law_729 ?_
  refine L_cI (pc := 730) C [] vmX10_holds lkL_82 rfl rfl rfl (Nat.le_of_ble_eq_true rfl) (by decide) dL_law_730 (ctX10_holds (lw_inj C).1 K0 _ e1) ?_
  refine L_al (pc := 733) C 1 rfl rfl dL_law_733 ?_
  refine L_rI (pc := 734) C [] vmX11_holds lkL_85 rfl rfl rfl (Nat.le_of_ble_eq_true rfl) (by decide) dL_law_734 (ctX11_holds (lw_inj C).2 Kr0 _ e2) ?_
  exact L_eqI (pc := 737) (tgt := 1865) C dL_law_737 (by decide) (nx _ _ hc)
theorem cs17 (C : lw_C Z) (hN : 1000 ≤ N) (hi : i + 6 ≤ lw_L Z) (hCR : CR Mc Mr) (nx : ∀ Mc Mr, CR Mc Mr → lw_T Z 1865 (lwv Z i) [] Mc Mr) : lw_T Z 742 (lwv Z i) [] Mc Mr := by
  obtain ⟨a, Mc1, Mr1, e1, e2, hc⟩ := d_loss (N := N) (y := lw_s Z (i + 1)) hN Mc Mr hCR
  refine L_al (pc := 742) C 2 rfl rfl dL_law_742 ?_
  refine L_arg (pc := 743) C 1 hi (by omega) (by decide) dL_law_743 dL_law_744 dL_law_745 dL_law_746 dL_law_747 ?_
  refine L_cL (pc := 748) C [.int (lw_s Z (i + 1))] vmX10_loss lkL_86 rfl rfl rfl (Nat.le_of_ble_eq_true rfl) (by decide) dL_law_748 (ctX10_loss (lw_inj C).1 K0 _ e1) ?_
  refine L_al (pc := 751) C 1 rfl rfl dL_law_751 ?_
  refine L_arg (pc := 752) C 1 hi (by omega) (by decide) dL_law_752 dL_law_753 dL_law_754 dL_law_755 dL_law_756 ?_
  refine L_rL (pc := 757) C [.int (lw_s Z (i + 1))] vmX11_loss lkL_90 rfl rfl rfl (Nat.le_of_ble_eq_true rfl) (by decide) dL_law_757 (ctX11_loss (lw_inj C).2 Kr0 _ e2) ?_
  exact L_eqL (pc := 760) (tgt := 1865) C dL_law_760 dL_law_761 (by decide) (nx _ _ hc)
theorem cs18 (C : lw_C Z) (hN : 1000 ≤ N) (hi : i + 6 ≤ lw_L Z) (hCR : CR Mc Mr) (nx : ∀ Mc Mr, CR Mc Mr → lw_T Z 1865 (lwv Z i) [] Mc Mr) : lw_T Z 766 (lwv Z i) [] Mc Mr := by
  obtain ⟨a, Mc1, Mr1, e1, e2, hc⟩ := d_moves (N := N) (x := lw_s Z (i + 1)) (y := lw_s Z (i + 2)) (z := lw_s Z (i + 3)) hN Mc Mr hCR
  refine L_al (pc := 766) C 2 rfl rfl dL_law_766 ?_
  refine L_arg (pc := 767) C 1 hi (by omega) (by decide) dL_law_767 dL_law_768 dL_law_769 dL_law_770 dL_law_771 ?_
  refine L_arg (pc := 772) C 2 hi (by omega) (by decide) dL_law_772 dL_law_773 dL_law_774 dL_law_775 dL_law_776 ?_
  refine L_arg (pc := 777) C 3 hi (by omega) (by decide) dL_law_777 dL_law_778 dL_law_779 dL_law_780 dL_law_781 ?_
  refine L_cL (pc := 782) C [.int (lw_s Z (i + 1)), .int (lw_s Z (i + 2)), .int (lw_s Z (i + 3))] vmX10_moves lkL_91 rfl rfl rfl (Nat.le_of_ble_eq_true rfl) (by decide) dL_law_782 (ctX10_moves (lw_inj C).1 K0 _ e1) ?_
  refine L_al (pc := 785) C 1 rfl rfl dL_law_785 ?_
  refine L_arg (pc := 786) C 1 hi (by omega) (by decide) dL_law_786 dL_law_787 dL_law_788 dL_law_789 dL_law_790 ?_
  refine L_arg (pc := 791) C 2 hi (by omega) (by decide) dL_law_791 dL_law_792 dL_law_793 dL_law_794 dL_law_795 ?_
  refine L_arg (pc := 796) C 3 hi (by omega) (by decide) dL_law_796 dL_law_797 dL_law_798 dL_law_799 dL_law_800 ?_
  refine L_rL (pc := 801) C [.int (lw_s Z (i + 1)), .int (lw_s Z (i + 2)), .int (lw_s Z (i + 3))] vmX11_moves lkL_95 rfl rfl rfl (Nat.le_of_ble_eq_true rfl) (by decide) dL_law_801 (ctX11_moves (lw_inj C).2 Kr0 _ e2) ?_
  exact L_eqL (pc := 804) (tgt := 1865) C dL_law_804 dL_law_805 (by decide) (nx _ _ hc)
theorem cs19 (C : lw_C Z) (hN : 1000 ≤ N) (hi : i + 6 ≤ lw_L Z) (hCR : CR Mc Mr) (nx : ∀ Mc Mr, CR Mc Mr → lw_T Z 1865 (lwv Z i) [] Mc Mr) : lw_T Z 810 (lwv Z i) [] Mc Mr := by
  obtain ⟨a, Mc1, Mr1, e1, e2, hc⟩ := d_resists (N := N) (x := lw_s Z (i + 1)) (y := lw_s Z (i + 2)) (z := lw_s Z (i + 3)) hN Mc Mr hCR
  refine L_al (pc := 810) C 2 rfl rfl dL_law_810 ?_
  refine L_arg (pc := 811) C 1 hi (by omega) (by decide) dL_law_811 dL_law_812 dL_law_813 dL_law_814 dL_law_815 ?_
  refine L_arg (pc := 816) C 2 hi (by omega) (by decide) dL_law_816 dL_law_817 dL_law_818 dL_law_819 dL_law_820 ?_
  refine L_arg (pc := 821) C 3 hi (by omega) (by decide) dL_law_821 dL_law_822 dL_law_823 dL_law_824 dL_law_825 ?_
  refine L_cL (pc := 826) C [.int (lw_s Z (i + 1)), .int (lw_s Z (i + 2)), .int (lw_s Z (i + 3))] vmX10_resists lkL_96 rfl rfl rfl (Nat.le_of_ble_eq_true rfl) (by decide) dL_law_826 (ctX10_resists (lw_inj C).1 K0 _ e1) ?_
  refine L_al (pc := 829) C 1 rfl rfl dL_law_829 ?_
  refine L_arg (pc := 830) C 1 hi (by omega) (by decide) dL_law_830 dL_law_831 dL_law_832 dL_law_833 dL_law_834 ?_
  refine L_arg (pc := 835) C 2 hi (by omega) (by decide) dL_law_835 dL_law_836 dL_law_837 dL_law_838 dL_law_839 ?_
  refine L_arg (pc := 840) C 3 hi (by omega) (by decide) dL_law_840 dL_law_841 dL_law_842 dL_law_843 dL_law_844 ?_
  refine L_rL (pc := 845) C [.int (lw_s Z (i + 1)), .int (lw_s Z (i + 2)), .int (lw_s Z (i + 3))] vmX11_resists lkL_99 rfl rfl rfl (Nat.le_of_ble_eq_true rfl) (by decide) dL_law_845 (ctX11_resists (lw_inj C).2 Kr0 _ e2) ?_
  exact L_eqL (pc := 848) (tgt := 1865) C dL_law_848 dL_law_849 (by decide) (nx _ _ hc)
theorem cs20 (C : lw_C Z) (hN : 1000 ≤ N) (hi : i + 6 ≤ lw_L Z) (hCR : CR Mc Mr) (nx : ∀ Mc Mr, CR Mc Mr → lw_T Z 1865 (lwv Z i) [] Mc Mr) : lw_T Z 854 (lwv Z i) [] Mc Mr := by
  obtain ⟨a, Mc1, Mr1, e1, e2, hc⟩ := d_most (N := N) (x := lw_s Z (i + 1)) (y := lw_s Z (i + 2)) hN Mc Mr hCR
  refine L_al (pc := 854) C 2 rfl rfl dL_law_854 ?_
  refine L_arg (pc := 855) C 1 hi (by omega) (by decide) dL_law_855 dL_law_856 dL_law_857 dL_law_858 dL_law_859 ?_
  refine L_arg (pc := 860) C 2 hi (by omega) (by decide) dL_law_860 dL_law_861 dL_law_862 dL_law_863 dL_law_864 ?_
  refine L_cL (pc := 865) C [.int (lw_s Z (i + 1)), .int (lw_s Z (i + 2))] vmX10_most lkL_100 rfl rfl rfl (Nat.le_of_ble_eq_true rfl) (by decide) dL_law_865 (ctX10_most (lw_inj C).1 K0 _ e1) ?_
  refine L_al (pc := 868) C 1 rfl rfl dL_law_868 ?_
  refine L_arg (pc := 869) C 1 hi (by omega) (by decide) dL_law_869 dL_law_870 dL_law_871 dL_law_872 dL_law_873 ?_
  refine L_arg (pc := 874) C 2 hi (by omega) (by decide) dL_law_874 dL_law_875 dL_law_876 dL_law_877 dL_law_878 ?_
  refine L_rL (pc := 879) C [.int (lw_s Z (i + 1)), .int (lw_s Z (i + 2))] vmX11_most lkL_103 rfl rfl rfl (Nat.le_of_ble_eq_true rfl) (by decide) dL_law_879 (ctX11_most (lw_inj C).2 Kr0 _ e2) ?_
  exact L_eqL (pc := 882) (tgt := 1865) C dL_law_882 dL_law_883 (by decide) (nx _ _ hc)
theorem cs21 (C : lw_C Z) (hN : 1000 ≤ N) (hi : i + 6 ≤ lw_L Z) (hCR : CR Mc Mr) (nx : ∀ Mc Mr, CR Mc Mr → lw_T Z 1865 (lwv Z i) [] Mc Mr) : lw_T Z 888 (lwv Z i) [] Mc Mr := by
  obtain ⟨a, Mc1, Mr1, e1, e2, hc⟩ := d_drawn (N := N) (x := lw_s Z (i + 1)) (y := lw_s Z (i + 2)) hN Mc Mr hCR
  refine L_al (pc := 888) C 2 rfl rfl dL_law_888 ?_
  refine L_arg (pc := 889) C 1 hi (by omega) (by decide) dL_law_889 dL_law_890 dL_law_891 dL_law_892 dL_law_893 ?_
  refine L_arg (pc := 894) C 2 hi (by omega) (by decide) dL_law_894 dL_law_895 dL_law_896 dL_law_897 dL_law_898 ?_
  refine L_cI (pc := 899) C [.int (lw_s Z (i + 1)), .int (lw_s Z (i + 2))] vmX10_drawn lkL_104 rfl rfl rfl (Nat.le_of_ble_eq_true rfl) (by decide) dL_law_899 (ctX10_drawn (lw_inj C).1 K0 _ e1) ?_
  refine L_al (pc := 902) C 1 rfl rfl dL_law_902 ?_
  refine L_arg (pc := 903) C 1 hi (by omega) (by decide) dL_law_903 dL_law_904 dL_law_905 dL_law_906 dL_law_907 ?_
  refine L_arg (pc := 908) C 2 hi (by omega) (by decide) dL_law_908 dL_law_909 dL_law_910 dL_law_911 dL_law_912 ?_
  refine L_rI (pc := 913) C [.int (lw_s Z (i + 1)), .int (lw_s Z (i + 2))] vmX11_drawn lkL_107 rfl rfl rfl (Nat.le_of_ble_eq_true rfl) (by decide) dL_law_913 (ctX11_drawn (lw_inj C).2 Kr0 _ e2) ?_
  exact L_eqI (pc := 916) (tgt := 1865) C dL_law_916 (by decide) (nx _ _ hc)
theorem cs22 (C : lw_C Z) (hN : 1000 ≤ N) (hi : i + 6 ≤ lw_L Z) (hCR : CR Mc Mr) (nx : ∀ Mc Mr, CR Mc Mr → lw_T Z 1865 (lwv Z i) [] Mc Mr) : lw_T Z 921 (lwv Z i) [] Mc Mr := by
  obtain ⟨a, Mc1, Mr1, e1, e2, hc⟩ := d_foe (N := N)  hN Mc Mr hCR
  refine L_al (pc := 921) C 2 rfl rfl dL_law_921 ?_
  refine L_cI (pc := 922) C [] vmX10_foe lkL_108 rfl rfl rfl (Nat.le_of_ble_eq_true rfl) (by decide) dL_law_922 (ctX10_foe (lw_inj C).1 K0 _ e1) ?_
  refine L_al (pc := 925) C 1 rfl rfl dL_law_925 ?_
  refine L_rI (pc := 926) C [] vmX11_foe lkL_111 rfl rfl rfl (Nat.le_of_ble_eq_true rfl) (by decide) dL_law_926 (ctX11_foe (lw_inj C).2 Kr0 _ e2) ?_
  exact L_eqI (pc := 929) (tgt := 1865) C dL_law_929 (by decide) (nx _ _ hc)
theorem cs23 (C : lw_C Z) (hN : 1000 ≤ N) (hi : i + 6 ≤ lw_L Z) (hCR : CR Mc Mr) (nx : ∀ Mc Mr, CR Mc Mr → lw_T Z 1865 (lwv Z i) [] Mc Mr) : lw_T Z 934 (lwv Z i) [] Mc Mr := by
  obtain ⟨a, Mc1, Mr1, e1, e2, hc⟩ := d_unsafe (N := N)  hN Mc Mr hCR
  refine L_al (pc := 934) C 2 rfl rfl dL_law_934 ?_
  refine L_cI (pc := 935) C [] vmX10_unsafe lkL_112 rfl rfl rfl (Nat.le_of_ble_eq_true rfl) (by decide) dL_law_935 (ctX10_unsafe (lw_inj C).1 K0 _ e1) ?_
  refine L_al (pc := 938) C 1 rfl rfl dL_law_938 ?_
  refine L_rI (pc := 939) C [] vmX11_unsafe lkL_115 rfl rfl rfl (Nat.le_of_ble_eq_true rfl) (by decide) dL_law_939 (ctX11_unsafe (lw_inj C).2 Kr0 _ e2) ?_
  exact L_eqI (pc := 942) (tgt := 1865) C dL_law_942 (by decide) (nx _ _ hc)
theorem cs24 (C : lw_C Z) (hN : 1000 ≤ N) (hi : i + 6 ≤ lw_L Z) (hCR : CR Mc Mr) (nx : ∀ Mc Mr, CR Mc Mr → lw_T Z 1865 (lwv Z i) [] Mc Mr) : lw_T Z 947 (lwv Z i) [] Mc Mr := by
  obtain ⟨a, Mc1, Mr1, e1, e2, hc⟩ := d_tight (N := N) (x := lw_s Z (i + 1)) hN Mc Mr hCR
  refine L_al (pc := 947) C 2 rfl rfl dL_law_947 ?_
  refine L_arg (pc := 948) C 1 hi (by omega) (by decide) dL_law_948 dL_law_949 dL_law_950 dL_law_951 dL_law_952 ?_
  refine L_cI (pc := 953) C [.int (lw_s Z (i + 1))] vmX10_tight lkL_116 rfl rfl rfl (Nat.le_of_ble_eq_true rfl) (by decide) dL_law_953 (ctX10_tight (lw_inj C).1 K0 _ e1) ?_
  refine L_al (pc := 956) C 1 rfl rfl dL_law_956 ?_
  refine L_arg (pc := 957) C 1 hi (by omega) (by decide) dL_law_957 dL_law_958 dL_law_959 dL_law_960 dL_law_961 ?_
  refine L_rI (pc := 962) C [.int (lw_s Z (i + 1))] vmX11_tight lkL_119 rfl rfl rfl (Nat.le_of_ble_eq_true rfl) (by decide) dL_law_962 (ctX11_tight (lw_inj C).2 Kr0 _ e2) ?_
  exact L_eqI (pc := 965) (tgt := 1865) C dL_law_965 (by decide) (nx _ _ hc)
theorem cs25 (C : lw_C Z) (hN : 1000 ≤ N) (hi : i + 6 ≤ lw_L Z) (hCR : CR Mc Mr) (nx : ∀ Mc Mr, CR Mc Mr → lw_T Z 1865 (lwv Z i) [] Mc Mr) : lw_T Z 970 (lwv Z i) [] Mc Mr := by
  obtain ⟨a, Mc1, Mr1, e1, e2, hc⟩ := d_share (N := N) (x := lw_s Z (i + 1)) (y := lw_s Z (i + 2)) (z := lw_s Z (i + 3)) hN Mc Mr hCR
  refine L_al (pc := 970) C 2 rfl rfl dL_law_970 ?_
  refine L_arg (pc := 971) C 1 hi (by omega) (by decide) dL_law_971 dL_law_972 dL_law_973 dL_law_974 dL_law_975 ?_
  refine L_arg (pc := 976) C 2 hi (by omega) (by decide) dL_law_976 dL_law_977 dL_law_978 dL_law_979 dL_law_980 ?_
  refine L_arg (pc := 981) C 3 hi (by omega) (by decide) dL_law_981 dL_law_982 dL_law_983 dL_law_984 dL_law_985 ?_
  refine L_cL (pc := 986) C [.int (lw_s Z (i + 1)), .int (lw_s Z (i + 2)), .int (lw_s Z (i + 3))] vmX10_share lkL_120 rfl rfl rfl (Nat.le_of_ble_eq_true rfl) (by decide) dL_law_986 (ctX10_share (lw_inj C).1 K0 _ e1) ?_
  refine L_al (pc := 989) C 1 rfl rfl dL_law_989 ?_
  refine L_arg (pc := 990) C 1 hi (by omega) (by decide) dL_law_990 dL_law_991 dL_law_992 dL_law_993 dL_law_994 ?_
  refine L_arg (pc := 995) C 2 hi (by omega) (by decide) dL_law_995 dL_law_996 dL_law_997 dL_law_998 dL_law_999 ?_
  refine L_arg (pc := 1000) C 3 hi (by omega) (by decide) dL_law_1000 dL_law_1001 dL_law_1002 dL_law_1003 dL_law_1004 ?_
  refine L_rL (pc := 1005) C [.int (lw_s Z (i + 1)), .int (lw_s Z (i + 2)), .int (lw_s Z (i + 3))] vmX11_share lkL_123 rfl rfl rfl (Nat.le_of_ble_eq_true rfl) (by decide) dL_law_1005 (ctX11_share (lw_inj C).2 Kr0 _ e2) ?_
  exact L_eqL (pc := 1008) (tgt := 1865) C dL_law_1008 dL_law_1009 (by decide) (nx _ _ hc)
theorem cs26 (C : lw_C Z) (hN : 1000 ≤ N) (hi : i + 6 ≤ lw_L Z) (hCR : CR Mc Mr) (nx : ∀ Mc Mr, CR Mc Mr → lw_T Z 1865 (lwv Z i) [] Mc Mr) : lw_T Z 1014 (lwv Z i) [] Mc Mr := by
  obtain ⟨a, Mc1, Mr1, e1, e2, hc⟩ := d_feeder (N := N) (x := lw_s Z (i + 1)) (y := lw_s Z (i + 2)) hN Mc Mr hCR
  refine L_al (pc := 1014) C 2 rfl rfl dL_law_1014 ?_
  refine L_arg (pc := 1015) C 1 hi (by omega) (by decide) dL_law_1015 dL_law_1016 dL_law_1017 dL_law_1018 dL_law_1019 ?_
  refine L_arg (pc := 1020) C 2 hi (by omega) (by decide) dL_law_1020 dL_law_1021 dL_law_1022 dL_law_1023 dL_law_1024 ?_
  refine L_cI (pc := 1025) C [.int (lw_s Z (i + 1)), .int (lw_s Z (i + 2))] vmX10_feeder lkL_124 rfl rfl rfl (Nat.le_of_ble_eq_true rfl) (by decide) dL_law_1025 (ctX10_feeder (lw_inj C).1 K0 _ e1) ?_
  refine L_al (pc := 1028) C 1 rfl rfl dL_law_1028 ?_
  refine L_arg (pc := 1029) C 1 hi (by omega) (by decide) dL_law_1029 dL_law_1030 dL_law_1031 dL_law_1032 dL_law_1033 ?_
  refine L_arg (pc := 1034) C 2 hi (by omega) (by decide) dL_law_1034 dL_law_1035 dL_law_1036 dL_law_1037 dL_law_1038 ?_
  refine L_rI (pc := 1039) C [.int (lw_s Z (i + 1)), .int (lw_s Z (i + 2))] vmX11_feeder lkL_127 rfl rfl rfl (Nat.le_of_ble_eq_true rfl) (by decide) dL_law_1039 (ctX11_feeder (lw_inj C).2 Kr0 _ e2) ?_
  exact L_eqI (pc := 1042) (tgt := 1865) C dL_law_1042 (by decide) (nx _ _ hc)
theorem cs27 (C : lw_C Z) (hN : 1000 ≤ N) (hi : i + 6 ≤ lw_L Z) (hCR : CR Mc Mr) (nx : ∀ Mc Mr, CR Mc Mr → lw_T Z 1865 (lwv Z i) [] Mc Mr) : lw_T Z 1047 (lwv Z i) [] Mc Mr := by
  obtain ⟨a, Mc1, Mr1, e1, e2, hc⟩ := d_parts (N := N)  hN Mc Mr hCR
  refine L_al (pc := 1047) C 2 rfl rfl dL_law_1047 ?_
  refine L_cI (pc := 1048) C [] vmX10_parts lkL_128 rfl rfl rfl (Nat.le_of_ble_eq_true rfl) (by decide) dL_law_1048 (ctX10_parts (lw_inj C).1 K0 _ e1) ?_
  refine L_al (pc := 1051) C 1 rfl rfl dL_law_1051 ?_
  refine L_rI (pc := 1052) C [] vmX11_parts lkL_131 rfl rfl rfl (Nat.le_of_ble_eq_true rfl) (by decide) dL_law_1052 (ctX11_parts (lw_inj C).2 Kr0 _ e2) ?_
  exact L_eqI (pc := 1055) (tgt := 1865) C dL_law_1055 (by decide) (nx _ _ hc)
theorem cs28 (C : lw_C Z) (hN : 1000 ≤ N) (hi : i + 6 ≤ lw_L Z) (hCR : CR Mc Mr) (nx : ∀ Mc Mr, CR Mc Mr → lw_T Z 1865 (lwv Z i) [] Mc Mr) : lw_T Z 1060 (lwv Z i) [] Mc Mr := by
  obtain ⟨a, Mc1, Mr1, e1, e2, hc⟩ := d_reached (N := N) (x := lw_s Z (i + 1)) hN Mc Mr hCR
  refine L_al (pc := 1060) C 2 rfl rfl dL_law_1060 ?_
  refine L_arg (pc := 1061) C 1 hi (by omega) (by decide) dL_law_1061 dL_law_1062 dL_law_1063 dL_law_1064 dL_law_1065 ?_
  refine L_cI (pc := 1066) C [.int (lw_s Z (i + 1))] vmX10_reached lkL_132 rfl rfl rfl (Nat.le_of_ble_eq_true rfl) (by decide) dL_law_1066 (ctX10_reached (lw_inj C).1 K0 _ e1) ?_
  refine L_al (pc := 1069) C 1 rfl rfl dL_law_1069 ?_
  refine L_arg (pc := 1070) C 1 hi (by omega) (by decide) dL_law_1070 dL_law_1071 dL_law_1072 dL_law_1073 dL_law_1074 ?_
  refine L_rI (pc := 1075) C [.int (lw_s Z (i + 1))] vmX11_reached lkL_135 rfl rfl rfl (Nat.le_of_ble_eq_true rfl) (by decide) dL_law_1075 (ctX11_reached (lw_inj C).2 Kr0 _ e2) ?_
  exact L_eqI (pc := 1078) (tgt := 1865) C dL_law_1078 (by decide) (nx _ _ hc)
theorem cs29 (C : lw_C Z) (hN : 1000 ≤ N) (hi : i + 6 ≤ lw_L Z) (hCR : CR Mc Mr) (nx : ∀ Mc Mr, CR Mc Mr → lw_T Z 1865 (lwv Z i) [] Mc Mr) : lw_T Z 1083 (lwv Z i) [] Mc Mr := by
  obtain ⟨a, Mc1, Mr1, e1, e2, hc⟩ := d_heat (N := N) (x := lw_s Z (i + 1)) (y := lw_s Z (i + 2)) hN Mc Mr hCR
  refine L_al (pc := 1083) C 2 rfl rfl dL_law_1083 ?_
  refine L_arg (pc := 1084) C 1 hi (by omega) (by decide) dL_law_1084 dL_law_1085 dL_law_1086 dL_law_1087 dL_law_1088 ?_
  refine L_arg (pc := 1089) C 2 hi (by omega) (by decide) dL_law_1089 dL_law_1090 dL_law_1091 dL_law_1092 dL_law_1093 ?_
  refine L_cL (pc := 1094) C [.int (lw_s Z (i + 1)), .int (lw_s Z (i + 2))] vmX10_heat lkL_136 rfl rfl rfl (Nat.le_of_ble_eq_true rfl) (by decide) dL_law_1094 (ctX10_heat (lw_inj C).1 K0 _ e1) ?_
  refine L_al (pc := 1097) C 1 rfl rfl dL_law_1097 ?_
  refine L_arg (pc := 1098) C 1 hi (by omega) (by decide) dL_law_1098 dL_law_1099 dL_law_1100 dL_law_1101 dL_law_1102 ?_
  refine L_arg (pc := 1103) C 2 hi (by omega) (by decide) dL_law_1103 dL_law_1104 dL_law_1105 dL_law_1106 dL_law_1107 ?_
  refine L_rL (pc := 1108) C [.int (lw_s Z (i + 1)), .int (lw_s Z (i + 2))] vmX11_heat lkL_139 rfl rfl rfl (Nat.le_of_ble_eq_true rfl) (by decide) dL_law_1108 (ctX11_heat (lw_inj C).2 Kr0 _ e2) ?_
  exact L_eqL (pc := 1111) (tgt := 1865) C dL_law_1111 dL_law_1112 (by decide) (nx _ _ hc)
theorem cs30 (C : lw_C Z) (hN : 1000 ≤ N) (hi : i + 6 ≤ lw_L Z) (hCR : CR Mc Mr) (nx : ∀ Mc Mr, CR Mc Mr → lw_T Z 1865 (lwv Z i) [] Mc Mr) : lw_T Z 1117 (lwv Z i) [] Mc Mr := by
  obtain ⟨a, Mc1, Mr1, e1, e2, hc⟩ := d_hottest (N := N)  hN Mc Mr hCR
  refine L_al (pc := 1117) C 2 rfl rfl dL_law_1117 ?_
  refine L_cI (pc := 1118) C [] vmX10_hottest lkL_140 rfl rfl rfl (Nat.le_of_ble_eq_true rfl) (by decide) dL_law_1118 (ctX10_hottest (lw_inj C).1 K0 _ e1) ?_
  refine L_al (pc := 1121) C 1 rfl rfl dL_law_1121 ?_
  refine L_rI (pc := 1122) C [] vmX11_hottest lkL_143 rfl rfl rfl (Nat.le_of_ble_eq_true rfl) (by decide) dL_law_1122 (ctX11_hottest (lw_inj C).2 Kr0 _ e2) ?_
  exact L_eqI (pc := 1125) (tgt := 1865) C dL_law_1125 (by decide) (nx _ _ hc)
theorem cs31 (C : lw_C Z) (hN : 1000 ≤ N) (hi : i + 6 ≤ lw_L Z) (hCR : CR Mc Mr) (nx : ∀ Mc Mr, CR Mc Mr → lw_T Z 1865 (lwv Z i) [] Mc Mr) : lw_T Z 1130 (lwv Z i) [] Mc Mr := by
  obtain ⟨a, Mc1, Mr1, e1, e2, hc⟩ := d_wearing (N := N)  hN Mc Mr hCR
  refine L_al (pc := 1130) C 2 rfl rfl dL_law_1130 ?_
  refine L_cI (pc := 1131) C [] vmX10_wearing lkL_144 rfl rfl rfl (Nat.le_of_ble_eq_true rfl) (by decide) dL_law_1131 (ctX10_wearing (lw_inj C).1 K0 _ e1) ?_
  refine L_al (pc := 1134) C 1 rfl rfl dL_law_1134 ?_
  refine L_rI (pc := 1135) C [] vmX11_wearing lkL_147 rfl rfl rfl (Nat.le_of_ble_eq_true rfl) (by decide) dL_law_1135 (ctX11_wearing (lw_inj C).2 Kr0 _ e2) ?_
  exact L_eqI (pc := 1138) (tgt := 1865) C dL_law_1138 (by decide) (nx _ _ hc)
theorem cs32 (C : lw_C Z) (hN : 1000 ≤ N) (hi : i + 6 ≤ lw_L Z) (hCR : CR Mc Mr) (nx : ∀ Mc Mr, CR Mc Mr → lw_T Z 1865 (lwv Z i) [] Mc Mr) : lw_T Z 1143 (lwv Z i) [] Mc Mr := by
  obtain ⟨a, Mc1, Mr1, e1, e2, hc⟩ := d_aged (N := N) (x := lw_s Z (i + 1)) (y := lw_s Z (i + 2)) hN Mc Mr hCR
  refine L_al (pc := 1143) C 2 rfl rfl dL_law_1143 ?_
  refine L_arg (pc := 1144) C 1 hi (by omega) (by decide) dL_law_1144 dL_law_1145 dL_law_1146 dL_law_1147 dL_law_1148 ?_
  refine L_arg (pc := 1149) C 2 hi (by omega) (by decide) dL_law_1149 dL_law_1150 dL_law_1151 dL_law_1152 dL_law_1153 ?_
  refine L_cI (pc := 1154) C [.int (lw_s Z (i + 1)), .int (lw_s Z (i + 2))] vmX10_aged lkL_148 rfl rfl rfl (Nat.le_of_ble_eq_true rfl) (by decide) dL_law_1154 (ctX10_aged (lw_inj C).1 K0 _ e1) ?_
  refine L_al (pc := 1157) C 1 rfl rfl dL_law_1157 ?_
  refine L_arg (pc := 1158) C 1 hi (by omega) (by decide) dL_law_1158 dL_law_1159 dL_law_1160 dL_law_1161 dL_law_1162 ?_
  refine L_arg (pc := 1163) C 2 hi (by omega) (by decide) dL_law_1163 dL_law_1164 dL_law_1165 dL_law_1166 dL_law_1167 ?_
  refine L_rI (pc := 1168) C [.int (lw_s Z (i + 1)), .int (lw_s Z (i + 2))] vmX11_aged lkL_151 rfl rfl rfl (Nat.le_of_ble_eq_true rfl) (by decide) dL_law_1168 (ctX11_aged (lw_inj C).2 Kr0 _ e2) ?_
  exact L_eqI (pc := 1171) (tgt := 1865) C dL_law_1171 (by decide) (nx _ _ hc)
theorem cs33 (C : lw_C Z) (hN : 1000 ≤ N) (hi : i + 6 ≤ lw_L Z) (hCR : CR Mc Mr) (nx : ∀ Mc Mr, CR Mc Mr → lw_T Z 1865 (lwv Z i) [] Mc Mr) : lw_T Z 1176 (lwv Z i) [] Mc Mr := by
  obtain ⟨a, Mc1, Mr1, e1, e2, hc⟩ := d_lasts (N := N)  hN Mc Mr hCR
  refine L_al (pc := 1176) C 2 rfl rfl dL_law_1176 ?_
  refine L_cI (pc := 1177) C [] vmX10_lasts lkL_152 rfl rfl rfl (Nat.le_of_ble_eq_true rfl) (by decide) dL_law_1177 (ctX10_lasts (lw_inj C).1 K0 _ e1) ?_
  refine L_al (pc := 1180) C 1 rfl rfl dL_law_1180 ?_
  refine L_rI (pc := 1181) C [] vmX11_lasts lkL_155 rfl rfl rfl (Nat.le_of_ble_eq_true rfl) (by decide) dL_law_1181 (ctX11_lasts (lw_inj C).2 Kr0 _ e2) ?_
  exact L_eqI (pc := 1184) (tgt := 1865) C dL_law_1184 (by decide) (nx _ _ hc)
theorem cs34 (C : lw_C Z) (hN : 1000 ≤ N) (hi : i + 6 ≤ lw_L Z) (hCR : CR Mc Mr) (nx : ∀ Mc Mr, CR Mc Mr → lw_T Z 1865 (lwv Z i) [] Mc Mr) : lw_T Z 1189 (lwv Z i) [] Mc Mr := by
  obtain ⟨a, Mc1, Mr1, e1, e2, hc⟩ := d_worn (N := N) (x := lw_s Z (i + 1)) hN Mc Mr hCR
  refine L_al (pc := 1189) C 2 rfl rfl dL_law_1189 ?_
  refine L_arg (pc := 1190) C 1 hi (by omega) (by decide) dL_law_1190 dL_law_1191 dL_law_1192 dL_law_1193 dL_law_1194 ?_
  refine L_cI (pc := 1195) C [.int (lw_s Z (i + 1))] vmX10_worn lkL_156 rfl rfl rfl (Nat.le_of_ble_eq_true rfl) (by decide) dL_law_1195 (ctX10_worn (lw_inj C).1 K0 _ e1) ?_
  refine L_al (pc := 1198) C 1 rfl rfl dL_law_1198 ?_
  refine L_arg (pc := 1199) C 1 hi (by omega) (by decide) dL_law_1199 dL_law_1200 dL_law_1201 dL_law_1202 dL_law_1203 ?_
  refine L_rI (pc := 1204) C [.int (lw_s Z (i + 1))] vmX11_worn lkL_159 rfl rfl rfl (Nat.le_of_ble_eq_true rfl) (by decide) dL_law_1204 (ctX11_worn (lw_inj C).2 Kr0 _ e2) ?_
  exact L_eqI (pc := 1207) (tgt := 1865) C dL_law_1207 (by decide) (nx _ _ hc)
theorem cs35 (C : lw_C Z) (hN : 1000 ≤ N) (hi : i + 6 ≤ lw_L Z) (hCR : CR Mc Mr) (nx : ∀ Mc Mr, CR Mc Mr → lw_T Z 1865 (lwv Z i) [] Mc Mr) : lw_T Z 1212 (lwv Z i) [] Mc Mr := by
  obtain ⟨a, Mc1, Mr1, e1, e2, hc⟩ := d_calms (N := N)  hN Mc Mr hCR
  refine L_al (pc := 1212) C 2 rfl rfl dL_law_1212 ?_
  refine L_cI (pc := 1213) C [] vmX10_calms lkL_160 rfl rfl rfl (Nat.le_of_ble_eq_true rfl) (by decide) dL_law_1213 (ctX10_calms (lw_inj C).1 K0 _ e1) ?_
  refine L_al (pc := 1216) C 1 rfl rfl dL_law_1216 ?_
  refine L_rI (pc := 1217) C [] vmX11_calms lkL_163 rfl rfl rfl (Nat.le_of_ble_eq_true rfl) (by decide) dL_law_1217 (ctX11_calms (lw_inj C).2 Kr0 _ e2) ?_
  exact L_eqI (pc := 1220) (tgt := 1865) C dL_law_1220 (by decide) (nx _ _ hc)
theorem cs36 (C : lw_C Z) (hN : 1000 ≤ N) (hi : i + 6 ≤ lw_L Z) (hCR : CR Mc Mr) (nx : ∀ Mc Mr, CR Mc Mr → lw_T Z 1865 (lwv Z i) [] Mc Mr) : lw_T Z 1225 (lwv Z i) [] Mc Mr := by
  obtain ⟨a, Mc1, Mr1, e1, e2, hc⟩ := d_pad (N := N) (x := lw_s Z (i + 1)) hN Mc Mr hCR
  refine L_al (pc := 1225) C 2 rfl rfl dL_law_1225 ?_
  refine L_arg (pc := 1226) C 1 hi (by omega) (by decide) dL_law_1226 dL_law_1227 dL_law_1228 dL_law_1229 dL_law_1230 ?_
  refine L_cI (pc := 1231) C [.int (lw_s Z (i + 1))] vmX10_pad lkL_164 rfl rfl rfl (Nat.le_of_ble_eq_true rfl) (by decide) dL_law_1231 (ctX10_pad (lw_inj C).1 K0 _ e1) ?_
  refine L_al (pc := 1234) C 1 rfl rfl dL_law_1234 ?_
  refine L_arg (pc := 1235) C 1 hi (by omega) (by decide) dL_law_1235 dL_law_1236 dL_law_1237 dL_law_1238 dL_law_1239 ?_
  refine L_rI (pc := 1240) C [.int (lw_s Z (i + 1))] vmX11_pad lkL_167 rfl rfl rfl (Nat.le_of_ble_eq_true rfl) (by decide) dL_law_1240 (ctX11_pad (lw_inj C).2 Kr0 _ e2) ?_
  exact L_eqI (pc := 1243) (tgt := 1865) C dL_law_1243 (by decide) (nx _ _ hc)
theorem cs37 (C : lw_C Z) (hN : 1000 ≤ N) (hi : i + 6 ≤ lw_L Z) (hCR : CR Mc Mr) (nx : ∀ Mc Mr, CR Mc Mr → lw_T Z 1865 (lwv Z i) [] Mc Mr) : lw_T Z 1248 (lwv Z i) [] Mc Mr := by
  obtain ⟨a, Mc1, Mr1, e1, e2, hc⟩ := d_pads (N := N) (x := lw_s Z (i + 1)) hN Mc Mr hCR
  refine L_al (pc := 1248) C 2 rfl rfl dL_law_1248 ?_
  refine L_arg (pc := 1249) C 1 hi (by omega) (by decide) dL_law_1249 dL_law_1250 dL_law_1251 dL_law_1252 dL_law_1253 ?_
  refine L_cI (pc := 1254) C [.int (lw_s Z (i + 1))] vmX10_pads lkL_168 rfl rfl rfl (Nat.le_of_ble_eq_true rfl) (by decide) dL_law_1254 (ctX10_pads (lw_inj C).1 K0 _ e1) ?_
  refine L_al (pc := 1257) C 1 rfl rfl dL_law_1257 ?_
  refine L_arg (pc := 1258) C 1 hi (by omega) (by decide) dL_law_1258 dL_law_1259 dL_law_1260 dL_law_1261 dL_law_1262 ?_
  refine L_rI (pc := 1263) C [.int (lw_s Z (i + 1))] vmX11_pads lkL_171 rfl rfl rfl (Nat.le_of_ble_eq_true rfl) (by decide) dL_law_1263 (ctX11_pads (lw_inj C).2 Kr0 _ e2) ?_
  exact L_eqI (pc := 1266) (tgt := 1865) C dL_law_1266 (by decide) (nx _ _ hc)
theorem cs38 (C : lw_C Z) (hN : 1000 ≤ N) (hi : i + 6 ≤ lw_L Z) (hCR : CR Mc Mr) (nx : ∀ Mc Mr, CR Mc Mr → lw_T Z 1865 (lwv Z i) [] Mc Mr) : lw_T Z 1271 (lwv Z i) [] Mc Mr := by
  obtain ⟨a, Mc1, Mr1, e1, e2, hc⟩ := d_padded (N := N) (x := lw_s Z (i + 1)) (y := lw_s Z (i + 2)) hN Mc Mr hCR
  refine L_al (pc := 1271) C 2 rfl rfl dL_law_1271 ?_
  refine L_arg (pc := 1272) C 1 hi (by omega) (by decide) dL_law_1272 dL_law_1273 dL_law_1274 dL_law_1275 dL_law_1276 ?_
  refine L_arg (pc := 1277) C 2 hi (by omega) (by decide) dL_law_1277 dL_law_1278 dL_law_1279 dL_law_1280 dL_law_1281 ?_
  refine L_cL (pc := 1282) C [.int (lw_s Z (i + 1)), .int (lw_s Z (i + 2))] vmX10_padded lkL_172 rfl rfl rfl (Nat.le_of_ble_eq_true rfl) (by decide) dL_law_1282 (ctX10_padded (lw_inj C).1 K0 _ e1) ?_
  refine L_al (pc := 1285) C 1 rfl rfl dL_law_1285 ?_
  refine L_arg (pc := 1286) C 1 hi (by omega) (by decide) dL_law_1286 dL_law_1287 dL_law_1288 dL_law_1289 dL_law_1290 ?_
  refine L_arg (pc := 1291) C 2 hi (by omega) (by decide) dL_law_1291 dL_law_1292 dL_law_1293 dL_law_1294 dL_law_1295 ?_
  refine L_rL (pc := 1296) C [.int (lw_s Z (i + 1)), .int (lw_s Z (i + 2))] vmX11_padded lkL_175 rfl rfl rfl (Nat.le_of_ble_eq_true rfl) (by decide) dL_law_1296 (ctX11_padded (lw_inj C).2 Kr0 _ e2) ?_
  exact L_eqL (pc := 1299) (tgt := 1865) C dL_law_1299 dL_law_1300 (by decide) (nx _ _ hc)
theorem cs39 (C : lw_C Z) (hN : 1000 ≤ N) (hi : i + 6 ≤ lw_L Z) (hCR : CR Mc Mr) (nx : ∀ Mc Mr, CR Mc Mr → lw_T Z 1865 (lwv Z i) [] Mc Mr) : lw_T Z 1305 (lwv Z i) [] Mc Mr := by
  obtain ⟨a, Mc1, Mr1, e1, e2, hc⟩ := d_enough (N := N)  hN Mc Mr hCR
  refine L_al (pc := 1305) C 2 rfl rfl dL_law_1305 ?_
  refine L_cI (pc := 1306) C [] vmX10_enough lkL_176 rfl rfl rfl (Nat.le_of_ble_eq_true rfl) (by decide) dL_law_1306 (ctX10_enough (lw_inj C).1 K0 _ e1) ?_
  refine L_al (pc := 1309) C 1 rfl rfl dL_law_1309 ?_
  refine L_rI (pc := 1310) C [] vmX11_enough lkL_179 rfl rfl rfl (Nat.le_of_ble_eq_true rfl) (by decide) dL_law_1310 (ctX11_enough (lw_inj C).2 Kr0 _ e2) ?_
  exact L_eqI (pc := 1313) (tgt := 1865) C dL_law_1313 (by decide) (nx _ _ hc)
theorem cs40 (C : lw_C Z) (hN : 1000 ≤ N) (hi : i + 6 ≤ lw_L Z) (hCR : CR Mc Mr) (nx : ∀ Mc Mr, CR Mc Mr → lw_T Z 1865 (lwv Z i) [] Mc Mr) : lw_T Z 1318 (lwv Z i) [] Mc Mr := by
  obtain ⟨a, Mc1, Mr1, e1, e2, hc⟩ := d_widens (N := N)  hN Mc Mr hCR
  refine L_al (pc := 1318) C 2 rfl rfl dL_law_1318 ?_
  refine L_cI (pc := 1319) C [] vmX10_widens lkL_180 rfl rfl rfl (Nat.le_of_ble_eq_true rfl) (by decide) dL_law_1319 (ctX10_widens (lw_inj C).1 K0 _ e1) ?_
  refine L_al (pc := 1322) C 1 rfl rfl dL_law_1322 ?_
  refine L_rI (pc := 1323) C [] vmX11_widens lkL_183 rfl rfl rfl (Nat.le_of_ble_eq_true rfl) (by decide) dL_law_1323 (ctX11_widens (lw_inj C).2 Kr0 _ e2) ?_
  exact L_eqI (pc := 1326) (tgt := 1865) C dL_law_1326 (by decide) (nx _ _ hc)
theorem cs41 (C : lw_C Z) (hN : 1000 ≤ N) (hi : i + 6 ≤ lw_L Z) (hCR : CR Mc Mr) (nx : ∀ Mc Mr, CR Mc Mr → lw_T Z 1865 (lwv Z i) [] Mc Mr) : lw_T Z 1331 (lwv Z i) [] Mc Mr := by
  obtain ⟨a, Mc1, Mr1, e1, e2, hc⟩ := d_widen (N := N) (x := lw_s Z (i + 1)) hN Mc Mr hCR
  refine L_al (pc := 1331) C 2 rfl rfl dL_law_1331 ?_
  refine L_arg (pc := 1332) C 1 hi (by omega) (by decide) dL_law_1332 dL_law_1333 dL_law_1334 dL_law_1335 dL_law_1336 ?_
  refine L_cI (pc := 1337) C [.int (lw_s Z (i + 1))] vmX10_widen lkL_184 rfl rfl rfl (Nat.le_of_ble_eq_true rfl) (by decide) dL_law_1337 (ctX10_widen (lw_inj C).1 K0 _ e1) ?_
  refine L_al (pc := 1340) C 1 rfl rfl dL_law_1340 ?_
  refine L_arg (pc := 1341) C 1 hi (by omega) (by decide) dL_law_1341 dL_law_1342 dL_law_1343 dL_law_1344 dL_law_1345 ?_
  refine L_rI (pc := 1346) C [.int (lw_s Z (i + 1))] vmX11_widen lkL_187 rfl rfl rfl (Nat.le_of_ble_eq_true rfl) (by decide) dL_law_1346 (ctX11_widen (lw_inj C).2 Kr0 _ e2) ?_
  exact L_eqI (pc := 1349) (tgt := 1865) C dL_law_1349 (by decide) (nx _ _ hc)
theorem cs42 (C : lw_C Z) (hN : 1000 ≤ N) (hi : i + 6 ≤ lw_L Z) (hCR : CR Mc Mr) (nx : ∀ Mc Mr, CR Mc Mr → lw_T Z 1865 (lwv Z i) [] Mc Mr) : lw_T Z 1354 (lwv Z i) [] Mc Mr := by
  obtain ⟨a, Mc1, Mr1, e1, e2, hc⟩ := d_wide (N := N)  hN Mc Mr hCR
  refine L_al (pc := 1354) C 2 rfl rfl dL_law_1354 ?_
  refine L_cI (pc := 1355) C [] vmX10_wide lkL_188 rfl rfl rfl (Nat.le_of_ble_eq_true rfl) (by decide) dL_law_1355 (ctX10_wide (lw_inj C).1 K0 _ e1) ?_
  refine L_al (pc := 1358) C 1 rfl rfl dL_law_1358 ?_
  refine L_rI (pc := 1359) C [] vmX11_wide lkL_191 rfl rfl rfl (Nat.le_of_ble_eq_true rfl) (by decide) dL_law_1359 (ctX11_wide (lw_inj C).2 Kr0 _ e2) ?_
  exact L_eqI (pc := 1362) (tgt := 1865) C dL_law_1362 (by decide) (nx _ _ hc)
theorem cs43 (C : lw_C Z) (hN : 1000 ≤ N) (hi : i + 6 ≤ lw_L Z) (hCR : CR Mc Mr) (nx : ∀ Mc Mr, CR Mc Mr → lw_T Z 1865 (lwv Z i) [] Mc Mr) : lw_T Z 1367 (lwv Z i) [] Mc Mr := by
  obtain ⟨a, Mc1, Mr1, e1, e2, hc⟩ := d_fewest (N := N)  hN Mc Mr hCR
  refine L_al (pc := 1367) C 2 rfl rfl dL_law_1367 ?_
  refine L_cI (pc := 1368) C [] vmX10_fewest lkL_192 rfl rfl rfl (Nat.le_of_ble_eq_true rfl) (by decide) dL_law_1368 (ctX10_fewest (lw_inj C).1 K0 _ e1) ?_
  refine L_al (pc := 1371) C 1 rfl rfl dL_law_1371 ?_
  refine L_rI (pc := 1372) C [] vmX11_fewest lkL_195 rfl rfl rfl (Nat.le_of_ble_eq_true rfl) (by decide) dL_law_1372 (ctX11_fewest (lw_inj C).2 Kr0 _ e2) ?_
  exact L_eqI (pc := 1375) (tgt := 1865) C dL_law_1375 (by decide) (nx _ _ hc)
theorem cs44 (C : lw_C Z) (hN : 1000 ≤ N) (hi : i + 6 ≤ lw_L Z) (hCR : CR Mc Mr) (nx : ∀ Mc Mr, CR Mc Mr → lw_T Z 1865 (lwv Z i) [] Mc Mr) : lw_T Z 1380 (lwv Z i) [] Mc Mr := by
  obtain ⟨a, Mc1, Mr1, e1, e2, hc⟩ := d_few (N := N) (x := lw_s Z (i + 1)) hN Mc Mr hCR
  refine L_al (pc := 1380) C 2 rfl rfl dL_law_1380 ?_
  refine L_arg (pc := 1381) C 1 hi (by omega) (by decide) dL_law_1381 dL_law_1382 dL_law_1383 dL_law_1384 dL_law_1385 ?_
  refine L_cI (pc := 1386) C [.int (lw_s Z (i + 1))] vmX10_few lkL_196 rfl rfl rfl (Nat.le_of_ble_eq_true rfl) (by decide) dL_law_1386 (ctX10_few (lw_inj C).1 K0 _ e1) ?_
  refine L_al (pc := 1389) C 1 rfl rfl dL_law_1389 ?_
  refine L_arg (pc := 1390) C 1 hi (by omega) (by decide) dL_law_1390 dL_law_1391 dL_law_1392 dL_law_1393 dL_law_1394 ?_
  refine L_rI (pc := 1395) C [.int (lw_s Z (i + 1))] vmX11_few lkL_199 rfl rfl rfl (Nat.le_of_ble_eq_true rfl) (by decide) dL_law_1395 (ctX11_few (lw_inj C).2 Kr0 _ e2) ?_
  exact L_eqI (pc := 1398) (tgt := 1865) C dL_law_1398 (by decide) (nx _ _ hc)
theorem cs45 (C : lw_C Z) (hN : 1000 ≤ N) (hi : i + 6 ≤ lw_L Z) (hCR : CR Mc Mr) (nx : ∀ Mc Mr, CR Mc Mr → lw_T Z 1865 (lwv Z i) [] Mc Mr) : lw_T Z 1403 (lwv Z i) [] Mc Mr := by
  obtain ⟨a, Mc1, Mr1, e1, e2, hc⟩ := d_slims (N := N)  hN Mc Mr hCR
  refine L_al (pc := 1403) C 2 rfl rfl dL_law_1403 ?_
  refine L_cI (pc := 1404) C [] vmX10_slims lkL_200 rfl rfl rfl (Nat.le_of_ble_eq_true rfl) (by decide) dL_law_1404 (ctX10_slims (lw_inj C).1 K0 _ e1) ?_
  refine L_al (pc := 1407) C 1 rfl rfl dL_law_1407 ?_
  refine L_rI (pc := 1408) C [] vmX11_slims lkL_203 rfl rfl rfl (Nat.le_of_ble_eq_true rfl) (by decide) dL_law_1408 (ctX11_slims (lw_inj C).2 Kr0 _ e2) ?_
  exact L_eqI (pc := 1411) (tgt := 1865) C dL_law_1411 (by decide) (nx _ _ hc)
theorem cs46 (C : lw_C Z) (hN : 1000 ≤ N) (hi : i + 6 ≤ lw_L Z) (hCR : CR Mc Mr) (nx : ∀ Mc Mr, CR Mc Mr → lw_T Z 1865 (lwv Z i) [] Mc Mr) : lw_T Z 1416 (lwv Z i) [] Mc Mr := by
  obtain ⟨a, Mc1, Mr1, e1, e2, hc⟩ := d_slim (N := N) (x := lw_s Z (i + 1)) hN Mc Mr hCR
  refine L_al (pc := 1416) C 2 rfl rfl dL_law_1416 ?_
  refine L_arg (pc := 1417) C 1 hi (by omega) (by decide) dL_law_1417 dL_law_1418 dL_law_1419 dL_law_1420 dL_law_1421 ?_
  refine L_cI (pc := 1422) C [.int (lw_s Z (i + 1))] vmX10_slim lkL_204 rfl rfl rfl (Nat.le_of_ble_eq_true rfl) (by decide) dL_law_1422 (ctX10_slim (lw_inj C).1 K0 _ e1) ?_
  refine L_al (pc := 1425) C 1 rfl rfl dL_law_1425 ?_
  refine L_arg (pc := 1426) C 1 hi (by omega) (by decide) dL_law_1426 dL_law_1427 dL_law_1428 dL_law_1429 dL_law_1430 ?_
  refine L_rI (pc := 1431) C [.int (lw_s Z (i + 1))] vmX11_slim lkL_207 rfl rfl rfl (Nat.le_of_ble_eq_true rfl) (by decide) dL_law_1431 (ctX11_slim (lw_inj C).2 Kr0 _ e2) ?_
  exact L_eqI (pc := 1434) (tgt := 1865) C dL_law_1434 (by decide) (nx _ _ hc)
theorem cs47 (C : lw_C Z) (hN : 1000 ≤ N) (hi : i + 6 ≤ lw_L Z) (hCR : CR Mc Mr) (nx : ∀ Mc Mr, CR Mc Mr → lw_T Z 1865 (lwv Z i) [] Mc Mr) : lw_T Z 1439 (lwv Z i) [] Mc Mr := by
  obtain ⟨a, Mc1, Mr1, e1, e2, hc⟩ := d_without (N := N) (x := lw_s Z (i + 1)) (y := lw_s Z (i + 2)) hN Mc Mr hCR
  refine L_al (pc := 1439) C 2 rfl rfl dL_law_1439 ?_
  refine L_arg (pc := 1440) C 1 hi (by omega) (by decide) dL_law_1440 dL_law_1441 dL_law_1442 dL_law_1443 dL_law_1444 ?_
  refine L_arg (pc := 1445) C 2 hi (by omega) (by decide) dL_law_1445 dL_law_1446 dL_law_1447 dL_law_1448 dL_law_1449 ?_
  refine L_cL (pc := 1450) C [.int (lw_s Z (i + 1)), .int (lw_s Z (i + 2))] vmX10_without lkL_208 rfl rfl rfl (Nat.le_of_ble_eq_true rfl) (by decide) dL_law_1450 (ctX10_without (lw_inj C).1 K0 _ e1) ?_
  refine L_al (pc := 1453) C 1 rfl rfl dL_law_1453 ?_
  refine L_arg (pc := 1454) C 1 hi (by omega) (by decide) dL_law_1454 dL_law_1455 dL_law_1456 dL_law_1457 dL_law_1458 ?_
  refine L_arg (pc := 1459) C 2 hi (by omega) (by decide) dL_law_1459 dL_law_1460 dL_law_1461 dL_law_1462 dL_law_1463 ?_
  refine L_rL (pc := 1464) C [.int (lw_s Z (i + 1)), .int (lw_s Z (i + 2))] vmX11_without lkL_211 rfl rfl rfl (Nat.le_of_ble_eq_true rfl) (by decide) dL_law_1464 (ctX11_without (lw_inj C).2 Kr0 _ e2) ?_
  exact L_eqL (pc := 1467) (tgt := 1865) C dL_law_1467 dL_law_1468 (by decide) (nx _ _ hc)
theorem cs48 (C : lw_C Z) (hN : 1000 ≤ N) (hi : i + 6 ≤ lw_L Z) (hCR : CR Mc Mr) (nx : ∀ Mc Mr, CR Mc Mr → lw_T Z 1865 (lwv Z i) [] Mc Mr) : lw_T Z 1473 (lwv Z i) [] Mc Mr := by
  obtain ⟨a, Mc1, Mr1, e1, e2, hc⟩ := d_lost (N := N) (x := lw_s Z (i + 1)) hN Mc Mr hCR
  refine L_al (pc := 1473) C 2 rfl rfl dL_law_1473 ?_
  refine L_arg (pc := 1474) C 1 hi (by omega) (by decide) dL_law_1474 dL_law_1475 dL_law_1476 dL_law_1477 dL_law_1478 ?_
  refine L_cI (pc := 1479) C [.int (lw_s Z (i + 1))] vmX10_lost lkL_212 rfl rfl rfl (Nat.le_of_ble_eq_true rfl) (by decide) dL_law_1479 (ctX10_lost (lw_inj C).1 K0 _ e1) ?_
  refine L_al (pc := 1482) C 1 rfl rfl dL_law_1482 ?_
  refine L_arg (pc := 1483) C 1 hi (by omega) (by decide) dL_law_1483 dL_law_1484 dL_law_1485 dL_law_1486 dL_law_1487 ?_
  refine L_rI (pc := 1488) C [.int (lw_s Z (i + 1))] vmX11_lost lkL_215 rfl rfl rfl (Nat.le_of_ble_eq_true rfl) (by decide) dL_law_1488 (ctX11_lost (lw_inj C).2 Kr0 _ e2) ?_
  exact L_eqI (pc := 1491) (tgt := 1865) C dL_law_1491 (by decide) (nx _ _ hc)
theorem cs49 (C : lw_C Z) (hN : 1000 ≤ N) (hi : i + 6 ≤ lw_L Z) (hCR : CR Mc Mr) (nx : ∀ Mc Mr, CR Mc Mr → lw_T Z 1865 (lwv Z i) [] Mc Mr) : lw_T Z 1496 (lwv Z i) [] Mc Mr := by
  obtain ⟨a, Mc1, Mr1, e1, e2, hc⟩ := d_vital (N := N)  hN Mc Mr hCR
  refine L_al (pc := 1496) C 2 rfl rfl dL_law_1496 ?_
  refine L_cI (pc := 1497) C [] vmX10_vital lkL_216 rfl rfl rfl (Nat.le_of_ble_eq_true rfl) (by decide) dL_law_1497 (ctX10_vital (lw_inj C).1 K0 _ e1) ?_
  refine L_al (pc := 1500) C 1 rfl rfl dL_law_1500 ?_
  refine L_rI (pc := 1501) C [] vmX11_vital lkL_219 rfl rfl rfl (Nat.le_of_ble_eq_true rfl) (by decide) dL_law_1501 (ctX11_vital (lw_inj C).2 Kr0 _ e2) ?_
  exact L_eqI (pc := 1504) (tgt := 1865) C dL_law_1504 (by decide) (nx _ _ hc)
theorem cs50 (C : lw_C Z) (hN : 1000 ≤ N) (hi : i + 6 ≤ lw_L Z) (hCR : CR Mc Mr) (nx : ∀ Mc Mr, CR Mc Mr → lw_T Z 1865 (lwv Z i) [] Mc Mr) : lw_T Z 1509 (lwv Z i) [] Mc Mr := by
  obtain ⟨a, Mc1, Mr1, e1, e2, hc⟩ := d_spare (N := N)  hN Mc Mr hCR
  refine L_al (pc := 1509) C 2 rfl rfl dL_law_1509 ?_
  refine L_cI (pc := 1510) C [] vmX10_spare lkL_220 rfl rfl rfl (Nat.le_of_ble_eq_true rfl) (by decide) dL_law_1510 (ctX10_spare (lw_inj C).1 K0 _ e1) ?_
  refine L_al (pc := 1513) C 1 rfl rfl dL_law_1513 ?_
  refine L_rI (pc := 1514) C [] vmX11_spare lkL_223 rfl rfl rfl (Nat.le_of_ble_eq_true rfl) (by decide) dL_law_1514 (ctX11_spare (lw_inj C).2 Kr0 _ e2) ?_
  exact L_eqI (pc := 1517) (tgt := 1865) C dL_law_1517 (by decide) (nx _ _ hc)
theorem cs51 (C : lw_C Z) (hN : 1000 ≤ N) (hi : i + 6 ≤ lw_L Z) (hCR : CR Mc Mr) (nx : ∀ Mc Mr, CR Mc Mr → lw_T Z 1865 (lwv Z i) [] Mc Mr) : lw_T Z 1522 (lwv Z i) [] Mc Mr := by
  obtain ⟨a, Mc1, Mr1, e1, e2, hc⟩ := d_pairs (N := N)  hN Mc Mr hCR
  refine L_al (pc := 1522) C 2 rfl rfl dL_law_1522 ?_
  refine L_cI (pc := 1523) C [] vmX10_pairs lkL_224 rfl rfl rfl (Nat.le_of_ble_eq_true rfl) (by decide) dL_law_1523 (ctX10_pairs (lw_inj C).1 K0 _ e1) ?_
  refine L_al (pc := 1526) C 1 rfl rfl dL_law_1526 ?_
  refine L_rI (pc := 1527) C [] vmX11_pairs lkL_227 rfl rfl rfl (Nat.le_of_ble_eq_true rfl) (by decide) dL_law_1527 (ctX11_pairs (lw_inj C).2 Kr0 _ e2) ?_
  exact L_eqI (pc := 1530) (tgt := 1865) C dL_law_1530 (by decide) (nx _ _ hc)
theorem cs52 (C : lw_C Z) (hN : 1000 ≤ N) (hi : i + 6 ≤ lw_L Z) (hCR : CR Mc Mr) (nx : ∀ Mc Mr, CR Mc Mr → lw_T Z 1865 (lwv Z i) [] Mc Mr) : lw_T Z 1535 (lwv Z i) [] Mc Mr := by
  obtain ⟨a, Mc1, Mr1, e1, e2, hc⟩ := d_pair (N := N) (x := lw_s Z (i + 1)) hN Mc Mr hCR
  refine L_al (pc := 1535) C 2 rfl rfl dL_law_1535 ?_
  refine L_arg (pc := 1536) C 1 hi (by omega) (by decide) dL_law_1536 dL_law_1537 dL_law_1538 dL_law_1539 dL_law_1540 ?_
  refine L_cI (pc := 1541) C [.int (lw_s Z (i + 1))] vmX10_pair lkL_228 rfl rfl rfl (Nat.le_of_ble_eq_true rfl) (by decide) dL_law_1541 (ctX10_pair (lw_inj C).1 K0 _ e1) ?_
  refine L_al (pc := 1544) C 1 rfl rfl dL_law_1544 ?_
  refine L_arg (pc := 1545) C 1 hi (by omega) (by decide) dL_law_1545 dL_law_1546 dL_law_1547 dL_law_1548 dL_law_1549 ?_
  refine L_rI (pc := 1550) C [.int (lw_s Z (i + 1))] vmX11_pair lkL_231 rfl rfl rfl (Nat.le_of_ble_eq_true rfl) (by decide) dL_law_1550 (ctX11_pair (lw_inj C).2 Kr0 _ e2) ?_
  exact L_eqI (pc := 1553) (tgt := 1865) C dL_law_1553 (by decide) (nx _ _ hc)
theorem cs53 (C : lw_C Z) (hN : 1000 ≤ N) (hi : i + 6 ≤ lw_L Z) (hCR : CR Mc Mr) (nx : ∀ Mc Mr, CR Mc Mr → lw_T Z 1865 (lwv Z i) [] Mc Mr) : lw_T Z 1558 (lwv Z i) [] Mc Mr := by
  obtain ⟨a, Mc1, Mr1, e1, e2, hc⟩ := d_chance (N := N) (x := lw_s Z (i + 1)) (y := lw_s Z (i + 2)) hN Mc Mr hCR
  refine L_al (pc := 1558) C 2 rfl rfl dL_law_1558 ?_
  refine L_arg (pc := 1559) C 1 hi (by omega) (by decide) dL_law_1559 dL_law_1560 dL_law_1561 dL_law_1562 dL_law_1563 ?_
  refine L_arg (pc := 1564) C 2 hi (by omega) (by decide) dL_law_1564 dL_law_1565 dL_law_1566 dL_law_1567 dL_law_1568 ?_
  refine L_cI (pc := 1569) C [.int (lw_s Z (i + 1)), .int (lw_s Z (i + 2))] vmX10_chance lkL_232 rfl rfl rfl (Nat.le_of_ble_eq_true rfl) (by decide) dL_law_1569 (ctX10_chance (lw_inj C).1 K0 _ e1) ?_
  refine L_al (pc := 1572) C 1 rfl rfl dL_law_1572 ?_
  refine L_arg (pc := 1573) C 1 hi (by omega) (by decide) dL_law_1573 dL_law_1574 dL_law_1575 dL_law_1576 dL_law_1577 ?_
  refine L_arg (pc := 1578) C 2 hi (by omega) (by decide) dL_law_1578 dL_law_1579 dL_law_1580 dL_law_1581 dL_law_1582 ?_
  refine L_rI (pc := 1583) C [.int (lw_s Z (i + 1)), .int (lw_s Z (i + 2))] vmX11_chance lkL_235 rfl rfl rfl (Nat.le_of_ble_eq_true rfl) (by decide) dL_law_1583 (ctX11_chance (lw_inj C).2 Kr0 _ e2) ?_
  exact L_eqI (pc := 1586) (tgt := 1865) C dL_law_1586 (by decide) (nx _ _ hc)
theorem cs54 (C : lw_C Z) (hN : 1000 ≤ N) (hi : i + 6 ≤ lw_L Z) (hCR : CR Mc Mr) (nx : ∀ Mc Mr, CR Mc Mr → lw_T Z 1865 (lwv Z i) [] Mc Mr) : lw_T Z 1591 (lwv Z i) [] Mc Mr := by
  obtain ⟨a, Mc1, Mr1, e1, e2, hc⟩ := d_luck (N := N) (x := lw_s Z (i + 1)) (y := lw_s Z (i + 2)) (z := lw_s Z (i + 3)) hN Mc Mr hCR
  refine L_al (pc := 1591) C 2 rfl rfl dL_law_1591 ?_
  refine L_arg (pc := 1592) C 1 hi (by omega) (by decide) dL_law_1592 dL_law_1593 dL_law_1594 dL_law_1595 dL_law_1596 ?_
  refine L_arg (pc := 1597) C 2 hi (by omega) (by decide) dL_law_1597 dL_law_1598 dL_law_1599 dL_law_1600 dL_law_1601 ?_
  refine L_arg (pc := 1602) C 3 hi (by omega) (by decide) dL_law_1602 dL_law_1603 dL_law_1604 dL_law_1605 dL_law_1606 ?_
  refine L_cL (pc := 1607) C [.int (lw_s Z (i + 1)), .int (lw_s Z (i + 2)), .int (lw_s Z (i + 3))] vmX10_luck lkL_236 rfl rfl rfl (Nat.le_of_ble_eq_true rfl) (by decide) dL_law_1607 (ctX10_luck (lw_inj C).1 K0 _ e1) ?_
  refine L_al (pc := 1610) C 1 rfl rfl dL_law_1610 ?_
  refine L_arg (pc := 1611) C 1 hi (by omega) (by decide) dL_law_1611 dL_law_1612 dL_law_1613 dL_law_1614 dL_law_1615 ?_
  refine L_arg (pc := 1616) C 2 hi (by omega) (by decide) dL_law_1616 dL_law_1617 dL_law_1618 dL_law_1619 dL_law_1620 ?_
  refine L_arg (pc := 1621) C 3 hi (by omega) (by decide) dL_law_1621 dL_law_1622 dL_law_1623 dL_law_1624 dL_law_1625 ?_
  refine L_rL (pc := 1626) C [.int (lw_s Z (i + 1)), .int (lw_s Z (i + 2)), .int (lw_s Z (i + 3))] vmX11_luck lkL_239 rfl rfl rfl (Nat.le_of_ble_eq_true rfl) (by decide) dL_law_1626 (ctX11_luck (lw_inj C).2 Kr0 _ e2) ?_
  exact L_eqL (pc := 1629) (tgt := 1865) C dL_law_1629 dL_law_1630 (by decide) (nx _ _ hc)
theorem cs55 (C : lw_C Z) (hN : 1000 ≤ N) (hi : i + 6 ≤ lw_L Z) (hCR : CR Mc Mr) (nx : ∀ Mc Mr, CR Mc Mr → lw_T Z 1865 (lwv Z i) [] Mc Mr) : lw_T Z 1635 (lwv Z i) [] Mc Mr := by
  obtain ⟨a, Mc1, Mr1, e1, e2, hc⟩ := d_room (N := N) (x := lw_s Z (i + 1)) hN Mc Mr hCR
  refine L_al (pc := 1635) C 2 rfl rfl dL_law_1635 ?_
  refine L_arg (pc := 1636) C 1 hi (by omega) (by decide) dL_law_1636 dL_law_1637 dL_law_1638 dL_law_1639 dL_law_1640 ?_
  refine L_cI (pc := 1641) C [.int (lw_s Z (i + 1))] vmX10_room lkL_240 rfl rfl rfl (Nat.le_of_ble_eq_true rfl) (by decide) dL_law_1641 (ctX10_room (lw_inj C).1 K0 _ e1) ?_
  refine L_al (pc := 1644) C 1 rfl rfl dL_law_1644 ?_
  refine L_arg (pc := 1645) C 1 hi (by omega) (by decide) dL_law_1645 dL_law_1646 dL_law_1647 dL_law_1648 dL_law_1649 ?_
  refine L_rI (pc := 1650) C [.int (lw_s Z (i + 1))] vmX11_room lkL_243 rfl rfl rfl (Nat.le_of_ble_eq_true rfl) (by decide) dL_law_1650 (ctX11_room (lw_inj C).2 Kr0 _ e2) ?_
  exact L_eqI (pc := 1653) (tgt := 1865) C dL_law_1653 (by decide) (nx _ _ hc)
theorem cs56 (C : lw_C Z) (hN : 1000 ≤ N) (hi : i + 6 ≤ lw_L Z) (hCR : CR Mc Mr) (nx : ∀ Mc Mr, CR Mc Mr → lw_T Z 1865 (lwv Z i) [] Mc Mr) : lw_T Z 1658 (lwv Z i) [] Mc Mr := by
  obtain ⟨a, Mc1, Mr1, e1, e2, hc⟩ := d_lay (N := N) (x := lw_s Z (i + 1)) (y := lw_s Z (i + 2)) hN Mc Mr hCR
  refine L_al (pc := 1658) C 2 rfl rfl dL_law_1658 ?_
  refine L_arg (pc := 1659) C 1 hi (by omega) (by decide) dL_law_1659 dL_law_1660 dL_law_1661 dL_law_1662 dL_law_1663 ?_
  refine L_arg (pc := 1664) C 2 hi (by omega) (by decide) dL_law_1664 dL_law_1665 dL_law_1666 dL_law_1667 dL_law_1668 ?_
  refine L_cI (pc := 1669) C [.int (lw_s Z (i + 1)), .int (lw_s Z (i + 2))] vmX10_lay lkL_244 rfl rfl rfl (Nat.le_of_ble_eq_true rfl) (by decide) dL_law_1669 (ctX10_lay (lw_inj C).1 K0 _ e1) ?_
  refine L_al (pc := 1672) C 1 rfl rfl dL_law_1672 ?_
  refine L_arg (pc := 1673) C 1 hi (by omega) (by decide) dL_law_1673 dL_law_1674 dL_law_1675 dL_law_1676 dL_law_1677 ?_
  refine L_arg (pc := 1678) C 2 hi (by omega) (by decide) dL_law_1678 dL_law_1679 dL_law_1680 dL_law_1681 dL_law_1682 ?_
  refine L_rI (pc := 1683) C [.int (lw_s Z (i + 1)), .int (lw_s Z (i + 2))] vmX11_lay lkL_247 rfl rfl rfl (Nat.le_of_ble_eq_true rfl) (by decide) dL_law_1683 (ctX11_lay (lw_inj C).2 Kr0 _ e2) ?_
  exact L_eqI (pc := 1686) (tgt := 1865) C dL_law_1686 (by decide) (nx _ _ hc)
theorem cs57 (C : lw_C Z) (hN : 1000 ≤ N) (hi : i + 6 ≤ lw_L Z) (hCR : CR Mc Mr) (nx : ∀ Mc Mr, CR Mc Mr → lw_T Z 1865 (lwv Z i) [] Mc Mr) : lw_T Z 1691 (lwv Z i) [] Mc Mr := by
  obtain ⟨a, Mc1, Mr1, e1, e2, hc⟩ := d_feeds (N := N) (x := lw_s Z (i + 1)) hN Mc Mr hCR
  refine L_al (pc := 1691) C 2 rfl rfl dL_law_1691 ?_
  refine L_arg (pc := 1692) C 1 hi (by omega) (by decide) dL_law_1692 dL_law_1693 dL_law_1694 dL_law_1695 dL_law_1696 ?_
  refine L_cI (pc := 1697) C [.int (lw_s Z (i + 1))] vmX10_feeds lkL_248 rfl rfl rfl (Nat.le_of_ble_eq_true rfl) (by decide) dL_law_1697 (ctX10_feeds (lw_inj C).1 K0 _ e1) ?_
  refine L_al (pc := 1700) C 1 rfl rfl dL_law_1700 ?_
  refine L_arg (pc := 1701) C 1 hi (by omega) (by decide) dL_law_1701 dL_law_1702 dL_law_1703 dL_law_1704 dL_law_1705 ?_
  refine L_rI (pc := 1706) C [.int (lw_s Z (i + 1))] vmX11_feeds lkL_251 rfl rfl rfl (Nat.le_of_ble_eq_true rfl) (by decide) dL_law_1706 (ctX11_feeds (lw_inj C).2 Kr0 _ e2) ?_
  exact L_eqI (pc := 1709) (tgt := 1865) C dL_law_1709 (by decide) (nx _ _ hc)
theorem cs58 (C : lw_C Z) (hN : 1000 ≤ N) (hi : i + 6 ≤ lw_L Z) (hCR : CR Mc Mr) (nx : ∀ Mc Mr, CR Mc Mr → lw_T Z 1865 (lwv Z i) [] Mc Mr) : lw_T Z 1714 (lwv Z i) [] Mc Mr := by
  obtain ⟨a, Mc1, Mr1, e1, e2, hc⟩ := d_draw (N := N) (x := lw_s Z (i + 1)) (y := lw_s Z (i + 2)) hN Mc Mr hCR
  refine L_al (pc := 1714) C 2 rfl rfl dL_law_1714 ?_
  refine L_arg (pc := 1715) C 1 hi (by omega) (by decide) dL_law_1715 dL_law_1716 dL_law_1717 dL_law_1718 dL_law_1719 ?_
  refine L_arg (pc := 1720) C 2 hi (by omega) (by decide) dL_law_1720 dL_law_1721 dL_law_1722 dL_law_1723 dL_law_1724 ?_
  refine L_cI (pc := 1725) C [.int (lw_s Z (i + 1)), .int (lw_s Z (i + 2))] vmX10_draw lkL_252 rfl rfl rfl (Nat.le_of_ble_eq_true rfl) (by decide) dL_law_1725 (ctX10_draw (lw_inj C).1 K0 _ e1) ?_
  refine L_al (pc := 1728) C 1 rfl rfl dL_law_1728 ?_
  refine L_arg (pc := 1729) C 1 hi (by omega) (by decide) dL_law_1729 dL_law_1730 dL_law_1731 dL_law_1732 dL_law_1733 ?_
  refine L_arg (pc := 1734) C 2 hi (by omega) (by decide) dL_law_1734 dL_law_1735 dL_law_1736 dL_law_1737 dL_law_1738 ?_
  refine L_rI (pc := 1739) C [.int (lw_s Z (i + 1)), .int (lw_s Z (i + 2))] vmX11_draw lkL_255 rfl rfl rfl (Nat.le_of_ble_eq_true rfl) (by decide) dL_law_1739 (ctX11_draw (lw_inj C).2 Kr0 _ e2) ?_
  exact L_eqI (pc := 1742) (tgt := 1865) C dL_law_1742 (by decide) (nx _ _ hc)
theorem cs59 (C : lw_C Z) (hN : 1000 ≤ N) (hi : i + 6 ≤ lw_L Z) (hCR : CR Mc Mr) (nx : ∀ Mc Mr, CR Mc Mr → lw_T Z 1865 (lwv Z i) [] Mc Mr) : lw_T Z 1747 (lwv Z i) [] Mc Mr := by
  obtain ⟨a, Mc1, Mr1, e1, e2, hc⟩ := d_year (N := N)  hN Mc Mr hCR
  refine L_al (pc := 1747) C 2 rfl rfl dL_law_1747 ?_
  refine L_cI (pc := 1748) C [] vmX10_year lkL_256 rfl rfl rfl (Nat.le_of_ble_eq_true rfl) (by decide) dL_law_1748 (ctX10_year (lw_inj C).1 K0 _ e1) ?_
  refine L_al (pc := 1751) C 1 rfl rfl dL_law_1751 ?_
  refine L_rI (pc := 1752) C [] vmX11_year lkL_259 rfl rfl rfl (Nat.le_of_ble_eq_true rfl) (by decide) dL_law_1752 (ctX11_year (lw_inj C).2 Kr0 _ e2) ?_
  exact L_eqI (pc := 1755) (tgt := 1865) C dL_law_1755 (by decide) (nx _ _ hc)
theorem cs60 (C : lw_C Z) (hN : 1000 ≤ N) (hi : i + 6 ≤ lw_L Z) (hCR : CR Mc Mr) (nx : ∀ Mc Mr, CR Mc Mr → lw_T Z 1865 (lwv Z i) [] Mc Mr) : lw_T Z 1760 (lwv Z i) [] Mc Mr := by
  obtain ⟨a, Mc1, Mr1, e1, e2, hc⟩ := d_did (N := N) (x := lw_s Z (i + 1)) (y := lw_s Z (i + 2)) hN Mc Mr hCR
  refine L_al (pc := 1760) C 2 rfl rfl dL_law_1760 ?_
  refine L_arg (pc := 1761) C 1 hi (by omega) (by decide) dL_law_1761 dL_law_1762 dL_law_1763 dL_law_1764 dL_law_1765 ?_
  refine L_arg (pc := 1766) C 2 hi (by omega) (by decide) dL_law_1766 dL_law_1767 dL_law_1768 dL_law_1769 dL_law_1770 ?_
  refine L_cI (pc := 1771) C [.int (lw_s Z (i + 1)), .int (lw_s Z (i + 2))] vmX10_did lkL_260 rfl rfl rfl (Nat.le_of_ble_eq_true rfl) (by decide) dL_law_1771 (ctX10_did (lw_inj C).1 K0 _ e1) ?_
  refine L_al (pc := 1774) C 1 rfl rfl dL_law_1774 ?_
  refine L_arg (pc := 1775) C 1 hi (by omega) (by decide) dL_law_1775 dL_law_1776 dL_law_1777 dL_law_1778 dL_law_1779 ?_
  refine L_arg (pc := 1780) C 2 hi (by omega) (by decide) dL_law_1780 dL_law_1781 dL_law_1782 dL_law_1783 dL_law_1784 ?_
  refine L_rI (pc := 1785) C [.int (lw_s Z (i + 1)), .int (lw_s Z (i + 2))] vmX11_did lkL_263 rfl rfl rfl (Nat.le_of_ble_eq_true rfl) (by decide) dL_law_1785 (ctX11_did (lw_inj C).2 Kr0 _ e2) ?_
  exact L_eqI (pc := 1788) (tgt := 1865) C dL_law_1788 (by decide) (nx _ _ hc)
theorem cs61 (C : lw_C Z) (hN : 1000 ≤ N) (hi : i + 6 ≤ lw_L Z) (hCR : CR Mc Mr) (nx : ∀ Mc Mr, CR Mc Mr → lw_T Z 1865 (lwv Z i) [] Mc Mr) : lw_T Z 1793 (lwv Z i) [] Mc Mr := by
  obtain ⟨a, Mc1, Mr1, e1, e2, hc⟩ := d_image (N := N) (x := lw_s Z (i + 1)) hN Mc Mr hCR
  refine L_al (pc := 1793) C 2 rfl rfl dL_law_1793 ?_
  refine L_arg (pc := 1794) C 1 hi (by omega) (by decide) dL_law_1794 dL_law_1795 dL_law_1796 dL_law_1797 dL_law_1798 ?_
  refine L_cI (pc := 1799) C [.int (lw_s Z (i + 1))] vmX10_image lkL_264 rfl rfl rfl (Nat.le_of_ble_eq_true rfl) (by decide) dL_law_1799 (ctX10_image (lw_inj C).1 K0 _ e1) ?_
  refine L_al (pc := 1802) C 1 rfl rfl dL_law_1802 ?_
  refine L_arg (pc := 1803) C 1 hi (by omega) (by decide) dL_law_1803 dL_law_1804 dL_law_1805 dL_law_1806 dL_law_1807 ?_
  refine L_rI (pc := 1808) C [.int (lw_s Z (i + 1))] vmX11_image lkL_267 rfl rfl rfl (Nat.le_of_ble_eq_true rfl) (by decide) dL_law_1808 (ctX11_image (lw_inj C).2 Kr0 _ e2) ?_
  exact L_eqI (pc := 1811) (tgt := 1865) C dL_law_1811 (by decide) (nx _ _ hc)
theorem cs62 (C : lw_C Z) (hN : 1000 ≤ N) (hi : i + 6 ≤ lw_L Z) (hCR : CR Mc Mr) (nx : ∀ Mc Mr, CR Mc Mr → lw_T Z 1865 (lwv Z i) [] Mc Mr) : lw_T Z 1816 (lwv Z i) [] Mc Mr := by
  obtain ⟨a, Mc1, Mr1, e1, e2, hc⟩ := d_back (N := N) (x := lw_s Z (i + 1)) hN Mc Mr hCR
  refine L_al (pc := 1816) C 2 rfl rfl dL_law_1816 ?_
  refine L_arg (pc := 1817) C 1 hi (by omega) (by decide) dL_law_1817 dL_law_1818 dL_law_1819 dL_law_1820 dL_law_1821 ?_
  refine L_cI (pc := 1822) C [.int (lw_s Z (i + 1))] vmX10_back lkL_268 rfl rfl rfl (Nat.le_of_ble_eq_true rfl) (by decide) dL_law_1822 (ctX10_back (lw_inj C).1 K0 _ e1) ?_
  refine L_al (pc := 1825) C 1 rfl rfl dL_law_1825 ?_
  refine L_arg (pc := 1826) C 1 hi (by omega) (by decide) dL_law_1826 dL_law_1827 dL_law_1828 dL_law_1829 dL_law_1830 ?_
  refine L_rI (pc := 1831) C [.int (lw_s Z (i + 1))] vmX11_back lkL_271 rfl rfl rfl (Nat.le_of_ble_eq_true rfl) (by decide) dL_law_1831 (ctX11_back (lw_inj C).2 Kr0 _ e2) ?_
  exact L_eqI (pc := 1834) (tgt := 1865) C dL_law_1834 (by decide) (nx _ _ hc)
theorem cs63 (C : lw_C Z) (hN : 1000 ≤ N) (hi : i + 6 ≤ lw_L Z) (hCR : CR Mc Mr) (nx : ∀ Mc Mr, CR Mc Mr → lw_T Z 1865 (lwv Z i) [] Mc Mr) : lw_T Z 1839 (lwv Z i) [] Mc Mr := by
  obtain ⟨a, Mc1, Mr1, e1, e2, hc⟩ := d_undo (N := N)  hN Mc Mr hCR
  refine L_al (pc := 1839) C 2 rfl rfl dL_law_1839 ?_
  refine L_cI (pc := 1840) C [] vmX10_undo lkL_272 rfl rfl rfl (Nat.le_of_ble_eq_true rfl) (by decide) dL_law_1840 (ctX10_undo (lw_inj C).1 K0 _ e1) ?_
  refine L_al (pc := 1843) C 1 rfl rfl dL_law_1843 ?_
  refine L_rI (pc := 1844) C [] vmX11_undo lkL_275 rfl rfl rfl (Nat.le_of_ble_eq_true rfl) (by decide) dL_law_1844 (ctX11_undo (lw_inj C).2 Kr0 _ e2) ?_
  exact L_eqI (pc := 1847) (tgt := 1865) C dL_law_1847 (by decide) (nx _ _ hc)
theorem cs64 (C : lw_C Z) (hN : 1000 ≤ N) (hi : i + 6 ≤ lw_L Z) (hCR : CR Mc Mr) (nx : ∀ Mc Mr, CR Mc Mr → lw_T Z 1865 (lwv Z i) [] Mc Mr) : lw_T Z 1852 (lwv Z i) [] Mc Mr := by
  obtain ⟨a, Mc1, Mr1, e1, e2, hc⟩ := d_anew (N := N)  hN Mc Mr hCR
  refine L_al (pc := 1852) C 2 rfl rfl dL_law_1852 ?_
  refine L_cI (pc := 1853) C [] vmX10_anew lkL_276 rfl rfl rfl (Nat.le_of_ble_eq_true rfl) (by decide) dL_law_1853 (ctX10_anew (lw_inj C).1 K0 _ e1) ?_
  refine L_al (pc := 1856) C 1 rfl rfl dL_law_1856 ?_
  refine L_rI (pc := 1857) C [] vmX11_anew lkL_279 rfl rfl rfl (Nat.le_of_ble_eq_true rfl) (by decide) dL_law_1857 (ctX11_anew (lw_inj C).2 Kr0 _ e2) ?_
  exact L_eqI (pc := 1860) (tgt := 1865) C dL_law_1860 (by decide) (nx _ _ hc)
def lw_tg : List Nat := [308, 371, 394, 407, 430, 453, 486, 519, 552, 575, 609, 643, 677, 690, 703, 716, 729, 742, 766, 810, 854, 888, 921, 934, 947, 970, 1014, 1047, 1060, 1083, 1117, 1130, 1143, 1176, 1189, 1212, 1225, 1248, 1271, 1305, 1318, 1331, 1354, 1367, 1380, 1403, 1416, 1439, 1473, 1496, 1509, 1522, 1535, 1558, 1591, 1635, 1658, 1691, 1714, 1747, 1760, 1793, 1816, 1839, 1852]
theorem cs_all (C : lw_C Z) (hN : 1000 ≤ N) (hi : i + 6 ≤ lw_L Z) (hCR : CR Mc Mr) (nx : ∀ Mc Mr, CR Mc Mr → lw_T Z 1865 (lwv Z i) [] Mc Mr) (w : Nat) (hw : w < 65) : lw_T Z (lw_tg.getD w 0) (lwv Z i) [] Mc Mr := by
  match w, hw with
  | 0, _ => exact cs0 C hN hi hCR nx
  | 1, _ => exact cs1 C hN hi hCR nx
  | 2, _ => exact cs2 C hN hi hCR nx
  | 3, _ => exact cs3 C hN hi hCR nx
  | 4, _ => exact cs4 C hN hi hCR nx
  | 5, _ => exact cs5 C hN hi hCR nx
  | 6, _ => exact cs6 C hN hi hCR nx
  | 7, _ => exact cs7 C hN hi hCR nx
  | 8, _ => exact cs8 C hN hi hCR nx
  | 9, _ => exact cs9 C hN hi hCR nx
  | 10, _ => exact cs10 C hN hi hCR nx
  | 11, _ => exact cs11 C hN hi hCR nx
  | 12, _ => exact cs12 C hN hi hCR nx
  | 13, _ => exact cs13 C hN hi hCR nx
  | 14, _ => exact cs14 C hN hi hCR nx
  | 15, _ => exact cs15 C hN hi hCR nx
  | 16, _ => exact cs16 C hN hi hCR nx
  | 17, _ => exact cs17 C hN hi hCR nx
  | 18, _ => exact cs18 C hN hi hCR nx
  | 19, _ => exact cs19 C hN hi hCR nx
  | 20, _ => exact cs20 C hN hi hCR nx
  | 21, _ => exact cs21 C hN hi hCR nx
  | 22, _ => exact cs22 C hN hi hCR nx
  | 23, _ => exact cs23 C hN hi hCR nx
  | 24, _ => exact cs24 C hN hi hCR nx
  | 25, _ => exact cs25 C hN hi hCR nx
  | 26, _ => exact cs26 C hN hi hCR nx
  | 27, _ => exact cs27 C hN hi hCR nx
  | 28, _ => exact cs28 C hN hi hCR nx
  | 29, _ => exact cs29 C hN hi hCR nx
  | 30, _ => exact cs30 C hN hi hCR nx
  | 31, _ => exact cs31 C hN hi hCR nx
  | 32, _ => exact cs32 C hN hi hCR nx
  | 33, _ => exact cs33 C hN hi hCR nx
  | 34, _ => exact cs34 C hN hi hCR nx
  | 35, _ => exact cs35 C hN hi hCR nx
  | 36, _ => exact cs36 C hN hi hCR nx
  | 37, _ => exact cs37 C hN hi hCR nx
  | 38, _ => exact cs38 C hN hi hCR nx
  | 39, _ => exact cs39 C hN hi hCR nx
  | 40, _ => exact cs40 C hN hi hCR nx
  | 41, _ => exact cs41 C hN hi hCR nx
  | 42, _ => exact cs42 C hN hi hCR nx
  | 43, _ => exact cs43 C hN hi hCR nx
  | 44, _ => exact cs44 C hN hi hCR nx
  | 45, _ => exact cs45 C hN hi hCR nx
  | 46, _ => exact cs46 C hN hi hCR nx
  | 47, _ => exact cs47 C hN hi hCR nx
  | 48, _ => exact cs48 C hN hi hCR nx
  | 49, _ => exact cs49 C hN hi hCR nx
  | 50, _ => exact cs50 C hN hi hCR nx
  | 51, _ => exact cs51 C hN hi hCR nx
  | 52, _ => exact cs52 C hN hi hCR nx
  | 53, _ => exact cs53 C hN hi hCR nx
  | 54, _ => exact cs54 C hN hi hCR nx
  | 55, _ => exact cs55 C hN hi hCR nx
  | 56, _ => exact cs56 C hN hi hCR nx
  | 57, _ => exact cs57 C hN hi hCR nx
  | 58, _ => exact cs58 C hN hi hCR nx
  | 59, _ => exact cs59 C hN hi hCR nx
  | 60, _ => exact cs60 C hN hi hCR nx
  | 61, _ => exact cs61 C hN hi hCR nx
  | 62, _ => exact cs62 C hN hi hCR nx
  | 63, _ => exact cs63 C hN hi hCR nx
  | 64, _ => exact cs64 C hN hi hCR nx
  | w + 65, h => exact absurd h (by omega)
end CS
