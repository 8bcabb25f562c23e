section LC1
variable {p : Program} {l : Launch} {e : Env} {s : State} {m : MethodId} {below : List Frame} {meth : Method} {c : Code} {D : va_G} {cA : Nat → ClassId} {aX aM : Nat → Nat} {b L : Nat} {xs : Nat → Int32} {A M : Mem} {x3 : Int32}
set_option maxHeartbeats 4000000 in
set_option maxRecDepth 100000 in
theorem law_case_8 (B : Lx p s m meth c D cA aX aM b L xs) {n : Nat} (hn : n ≤ 64) (hR : Rel n A M) {v1 v2 v3 v4 : Int32} (h1 : vp_in (x3 + 1) L ∧ xs (x3 + 1).toNatClampNeg = v1) (h2 : vp_in (x3 + 2) L ∧ xs (x3 + 2).toNatClampNeg = v2) (h3 : vp_in (x3 + 3) L ∧ xs (x3 + 3).toNatClampNeg = v3) (h4 : vp_in (x3 + 4) L ∧ xs (x3 + 4).toNatClampNeg = v4) (next : ∀ A1 M1 : Mem, Rel (n + 1) A1 M1 → LG p l e s m below meth c D cA aX aM b A1 M1 x3 1224 []) : LG p l e s m below meth c D cA aX aM b A M x3 440 [] := by
  obtain ⟨r, A1, M1, e1, e2, hR1⟩ := sim_give hR v1 v2 v3 v4
  refine l_ax B dL_law_440 ?_
  refine l_arg (k := 1) B dL_law_441 dL_law_442 dL_law_443 dL_law_444 dL_law_445 (by decide) h1 ?_
  refine l_arg (k := 2) B dL_law_446 dL_law_447 dL_law_448 dL_law_449 dL_law_450 (by decide) h2 ?_
  refine l_arg (k := 3) B dL_law_451 dL_law_452 dL_law_453 dL_law_454 dL_law_455 (by decide) h3 ?_
  refine l_arg (k := 4) B dL_law_456 dL_law_457 dL_law_458 dL_law_459 dL_law_460 (by decide) h4 ?_
  refine l_callX (As := [.int v1, .int v2, .int v3, .int v4]) (st := []) B (k_X8_give l D cA aX B.2.2.2.2.2.2.2.2.2.2.2.1 v1 v2 v3 v4 A) (cwV 4 B.2.2.2.2.2.1 gL_law_X8_give rfl rfl rfl (by decide +kernel) ⟨Nat.le_of_ble_eq_true rfl, Nat.le_of_ble_eq_true rfl⟩) e1 rfl rfl (Nat.le_of_ble_eq_true rfl) dL_law_461 ?_
  refine l_am B dL_law_464 ?_
  refine l_arg (k := 1) B dL_law_465 dL_law_466 dL_law_467 dL_law_468 dL_law_469 (by decide) h1 ?_
  refine l_arg (k := 2) B dL_law_470 dL_law_471 dL_law_472 dL_law_473 dL_law_474 (by decide) h2 ?_
  refine l_arg (k := 3) B dL_law_475 dL_law_476 dL_law_477 dL_law_478 dL_law_479 (by decide) h3 ?_
  refine l_arg (k := 4) B dL_law_480 dL_law_481 dL_law_482 dL_law_483 dL_law_484 (by decide) h4 ?_
  refine l_callM (As := [.int v1, .int v2, .int v3, .int v4]) (st := [.int r]) B (k_X9_give l D cA aM B.2.2.2.2.2.2.2.2.2.2.2.2.1 v1 v2 v3 v4 M) (cwV 4 B.2.2.2.2.2.1 gL_law_X9_give rfl rfl rfl (by decide +kernel) ⟨Nat.le_of_ble_eq_true rfl, Nat.le_of_ble_eq_true rfl⟩) e2 rfl rfl (Nat.le_of_ble_eq_true rfl) dL_law_485 ?_
  exact l_eq B dL_law_488 (by decide) (next A1 M1 hR1)
set_option maxHeartbeats 4000000 in
set_option maxRecDepth 100000 in
theorem law_case_9 (B : Lx p s m meth c D cA aX aM b L xs) {n : Nat} (hn : n ≤ 64) (hR : Rel n A M) {v1 v2 v3 v4 v5 : Int32} (h1 : vp_in (x3 + 1) L ∧ xs (x3 + 1).toNatClampNeg = v1) (h2 : vp_in (x3 + 2) L ∧ xs (x3 + 2).toNatClampNeg = v2) (h3 : vp_in (x3 + 3) L ∧ xs (x3 + 3).toNatClampNeg = v3) (h4 : vp_in (x3 + 4) L ∧ xs (x3 + 4).toNatClampNeg = v4) (h5 : vp_in (x3 + 5) L ∧ xs (x3 + 5).toNatClampNeg = v5) (next : ∀ A1 M1 : Mem, Rel (n + 1) A1 M1 → LG p l e s m below meth c D cA aX aM b A1 M1 x3 1224 []) : LG p l e s m below meth c D cA aX aM b A M x3 493 [] := by
  obtain ⟨r, A1, M1, e1, e2, hR1⟩ := sim_season hR hn v1 v2 v3 v4 v5
  refine l_ax B dL_law_493 ?_
  refine l_arg (k := 1) B dL_law_494 dL_law_495 dL_law_496 dL_law_497 dL_law_498 (by decide) h1 ?_
  refine l_arg (k := 2) B dL_law_499 dL_law_500 dL_law_501 dL_law_502 dL_law_503 (by decide) h2 ?_
  refine l_arg (k := 3) B dL_law_504 dL_law_505 dL_law_506 dL_law_507 dL_law_508 (by decide) h3 ?_
  refine l_arg (k := 4) B dL_law_509 dL_law_510 dL_law_511 dL_law_512 dL_law_513 (by decide) h4 ?_
  refine l_arg (k := 5) B dL_law_514 dL_law_515 dL_law_516 dL_law_517 dL_law_518 (by decide) h5 ?_
  refine l_callX (As := [.int v1, .int v2, .int v3, .int v4, .int v5]) (st := []) B (k_X8_season l D cA aX B.2.2.2.2.2.2.2.2.2.2.2.1 v1 v2 v3 v4 v5 A) (cwV 5 B.2.2.2.2.2.1 gL_law_X8_season rfl rfl rfl (by decide +kernel) ⟨Nat.le_of_ble_eq_true rfl, Nat.le_of_ble_eq_true rfl⟩) e1 rfl rfl (Nat.le_of_ble_eq_true rfl) dL_law_519 ?_
  refine l_am B dL_law_522 ?_
  refine l_arg (k := 1) B dL_law_523 dL_law_524 dL_law_525 dL_law_526 dL_law_527 (by decide) h1 ?_
  refine l_arg (k := 2) B dL_law_528 dL_law_529 dL_law_530 dL_law_531 dL_law_532 (by decide) h2 ?_
  refine l_arg (k := 3) B dL_law_533 dL_law_534 dL_law_535 dL_law_536 dL_law_537 (by decide) h3 ?_
  refine l_arg (k := 4) B dL_law_538 dL_law_539 dL_law_540 dL_law_541 dL_law_542 (by decide) h4 ?_
  refine l_arg (k := 5) B dL_law_543 dL_law_544 dL_law_545 dL_law_546 dL_law_547 (by decide) h5 ?_
  refine l_callM (As := [.int v1, .int v2, .int v3, .int v4, .int v5]) (st := [.int r]) B (k_X9_season l D cA aM B.2.2.2.2.2.2.2.2.2.2.2.2.1 v1 v2 v3 v4 v5 M) (cwV 5 B.2.2.2.2.2.1 gL_law_X9_season rfl rfl rfl (by decide +kernel) ⟨Nat.le_of_ble_eq_true rfl, Nat.le_of_ble_eq_true rfl⟩) e2 rfl rfl (Nat.le_of_ble_eq_true rfl) dL_law_548 ?_
  exact l_eq B dL_law_551 (by decide) (next A1 M1 hR1)
set_option maxHeartbeats 4000000 in
set_option maxRecDepth 100000 in
theorem law_case_10 (B : Lx p s m meth c D cA aX aM b L xs) {n : Nat} (hn : n ≤ 64) (hR : Rel n A M) {v1 v2 v3 : Int32} (h1 : vp_in (x3 + 1) L ∧ xs (x3 + 1).toNatClampNeg = v1) (h2 : vp_in (x3 + 2) L ∧ xs (x3 + 2).toNatClampNeg = v2) (h3 : vp_in (x3 + 3) L ∧ xs (x3 + 3).toNatClampNeg = v3) (next : ∀ A1 M1 : Mem, Rel (n + 1) A1 M1 → LG p l e s m below meth c D cA aX aM b A1 M1 x3 1224 []) : LG p l e s m below meth c D cA aX aM b A M x3 556 [] := by
  obtain ⟨r, A1, M1, e1, e2, hR1⟩ := sim_way hR v1 v2 v3
  refine l_ax B dL_law_556 ?_
  refine l_arg (k := 1) B dL_law_557 dL_law_558 dL_law_559 dL_law_560 dL_law_561 (by decide) h1 ?_
  refine l_arg (k := 2) B dL_law_562 dL_law_563 dL_law_564 dL_law_565 dL_law_566 (by decide) h2 ?_
  refine l_arg (k := 3) B dL_law_567 dL_law_568 dL_law_569 dL_law_570 dL_law_571 (by decide) h3 ?_
  refine l_callX (As := [.int v1, .int v2, .int v3]) (st := []) B (k_X8_way l D cA aX B.2.2.2.2.2.2.2.2.2.2.2.1 v1 v2 v3 A) (cwV 3 B.2.2.2.2.2.1 gL_law_X8_way rfl rfl rfl (by decide +kernel) ⟨Nat.le_of_ble_eq_true rfl, Nat.le_of_ble_eq_true rfl⟩) e1 rfl rfl (Nat.le_of_ble_eq_true rfl) dL_law_572 ?_
  refine l_am B dL_law_575 ?_
  refine l_arg (k := 1) B dL_law_576 dL_law_577 dL_law_578 dL_law_579 dL_law_580 (by decide) h1 ?_
  refine l_arg (k := 2) B dL_law_581 dL_law_582 dL_law_583 dL_law_584 dL_law_585 (by decide) h2 ?_
  refine l_arg (k := 3) B dL_law_586 dL_law_587 dL_law_588 dL_law_589 dL_law_590 (by decide) h3 ?_
  refine l_callM (As := [.int v1, .int v2, .int v3]) (st := [.int r]) B (k_X9_way l D cA aM B.2.2.2.2.2.2.2.2.2.2.2.2.1 v1 v2 v3 M) (cwV 3 B.2.2.2.2.2.1 gL_law_X9_way rfl rfl rfl (by decide +kernel) ⟨Nat.le_of_ble_eq_true rfl, Nat.le_of_ble_eq_true rfl⟩) e2 rfl rfl (Nat.le_of_ble_eq_true rfl) dL_law_591 ?_
  exact l_eq B dL_law_594 (by decide) (next A1 M1 hR1)
set_option maxHeartbeats 4000000 in
set_option maxRecDepth 100000 in
theorem law_case_11 (B : Lx p s m meth c D cA aX aM b L xs) {n : Nat} (hn : n ≤ 64) (hR : Rel n A M) {v1 v2 : Int32} (h1 : vp_in (x3 + 1) L ∧ xs (x3 + 1).toNatClampNeg = v1) (h2 : vp_in (x3 + 2) L ∧ xs (x3 + 2).toNatClampNeg = v2) (next : ∀ A1 M1 : Mem, Rel (n + 1) A1 M1 → LG p l e s m below meth c D cA aX aM b A1 M1 x3 1224 []) : LG p l e s m below meth c D cA aX aM b A M x3 599 [] := by
  obtain ⟨r, A1, M1, e1, e2, hR1⟩ := sim_round hR v1 v2
  refine l_ax B dL_law_599 ?_
  refine l_arg (k := 1) B dL_law_600 dL_law_601 dL_law_602 dL_law_603 dL_law_604 (by decide) h1 ?_
  refine l_arg (k := 2) B dL_law_605 dL_law_606 dL_law_607 dL_law_608 dL_law_609 (by decide) h2 ?_
  refine l_callX (As := [.int v1, .int v2]) (st := []) B (k_X8_round l D cA aX B.2.2.2.2.2.2.2.2.2.2.2.1 v1 v2 A) (cwV 2 B.2.2.2.2.2.1 gL_law_X8_round rfl rfl rfl (by decide +kernel) ⟨Nat.le_of_ble_eq_true rfl, Nat.le_of_ble_eq_true rfl⟩) e1 rfl rfl (Nat.le_of_ble_eq_true rfl) dL_law_610 ?_
  refine l_am B dL_law_613 ?_
  refine l_arg (k := 1) B dL_law_614 dL_law_615 dL_law_616 dL_law_617 dL_law_618 (by decide) h1 ?_
  refine l_arg (k := 2) B dL_law_619 dL_law_620 dL_law_621 dL_law_622 dL_law_623 (by decide) h2 ?_
  refine l_callM (As := [.int v1, .int v2]) (st := [.int r]) B (k_X9_round l D cA aM B.2.2.2.2.2.2.2.2.2.2.2.2.1 v1 v2 M) (cwV 2 B.2.2.2.2.2.1 gL_law_X9_round rfl rfl rfl (by decide +kernel) ⟨Nat.le_of_ble_eq_true rfl, Nat.le_of_ble_eq_true rfl⟩) e2 rfl rfl (Nat.le_of_ble_eq_true rfl) dL_law_624 ?_
  exact l_eq B dL_law_627 (by decide) (next A1 M1 hR1)
set_option maxHeartbeats 4000000 in
set_option maxRecDepth 100000 in
theorem law_case_12 (B : Lx p s m meth c D cA aX aM b L xs) {n : Nat} (hn : n ≤ 64) (hR : Rel n A M) {v1 : Int32} (h1 : vp_in (x3 + 1) L ∧ xs (x3 + 1).toNatClampNeg = v1) (next : ∀ A1 M1 : Mem, Rel (n + 1) A1 M1 → LG p l e s m below meth c D cA aX aM b A1 M1 x3 1224 []) : LG p l e s m below meth c D cA aX aM b A M x3 632 [] := by
  obtain ⟨r, A1, M1, e1, e2, hR1⟩ := sim_kept hR hn v1
  refine l_ax B dL_law_632 ?_
  refine l_arg (k := 1) B dL_law_633 dL_law_634 dL_law_635 dL_law_636 dL_law_637 (by decide) h1 ?_
  refine l_callX (As := [.int v1]) (st := []) B (k_X8_kept l D cA aX B.2.2.2.2.2.2.2.2.2.2.2.1 v1 A) (cwV 1 B.2.2.2.2.2.1 gL_law_X8_kept rfl rfl rfl (by decide +kernel) ⟨Nat.le_of_ble_eq_true rfl, Nat.le_of_ble_eq_true rfl⟩) e1 rfl rfl (Nat.le_of_ble_eq_true rfl) dL_law_638 ?_
  refine l_am B dL_law_641 ?_
  refine l_arg (k := 1) B dL_law_642 dL_law_643 dL_law_644 dL_law_645 dL_law_646 (by decide) h1 ?_
  refine l_callM (As := [.int v1]) (st := [.int r]) B (k_X9_kept l D cA aM B.2.2.2.2.2.2.2.2.2.2.2.2.1 v1 M) (cwV 1 B.2.2.2.2.2.1 gL_law_X9_kept rfl rfl rfl (by decide +kernel) ⟨Nat.le_of_ble_eq_true rfl, Nat.le_of_ble_eq_true rfl⟩) e2 rfl rfl (Nat.le_of_ble_eq_true rfl) dL_law_647 ?_
  exact l_eq B dL_law_650 (by decide) (next A1 M1 hR1)
set_option maxHeartbeats 4000000 in
set_option maxRecDepth 100000 in
theorem law_case_13 (B : Lx p s m meth c D cA aX aM b L xs) {n : Nat} (hn : n ≤ 64) (hR : Rel n A M) {v1 : Int32} (h1 : vp_in (x3 + 1) L ∧ xs (x3 + 1).toNatClampNeg = v1) (next : ∀ A1 M1 : Mem, Rel (n + 1) A1 M1 → LG p l e s m below meth c D cA aX aM b A1 M1 x3 1224 []) : LG p l e s m below meth c D cA aX aM b A M x3 655 [] := by
  obtain ⟨r, A1, M1, e1, e2, hR1⟩ := sim_middle hR v1
  refine l_ax B dL_law_655 ?_
  refine l_arg (k := 1) B dL_law_656 dL_law_657 dL_law_658 dL_law_659 dL_law_660 (by decide) h1 ?_
  refine l_callX (As := [.int v1]) (st := []) B (k_X8_middle l D cA aX B.2.2.2.2.2.2.2.2.2.2.2.1 v1 A) (cwV 1 B.2.2.2.2.2.1 gL_law_X8_middle rfl rfl rfl (by decide +kernel) ⟨Nat.le_of_ble_eq_true rfl, Nat.le_of_ble_eq_true rfl⟩) e1 rfl rfl (Nat.le_of_ble_eq_true rfl) dL_law_661 ?_
  refine l_am B dL_law_664 ?_
  refine l_arg (k := 1) B dL_law_665 dL_law_666 dL_law_667 dL_law_668 dL_law_669 (by decide) h1 ?_
  refine l_callM (As := [.int v1]) (st := [.int r]) B (k_X9_middle l D cA aM B.2.2.2.2.2.2.2.2.2.2.2.2.1 v1 M) (cwV 1 B.2.2.2.2.2.1 gL_law_X9_middle rfl rfl rfl (by decide +kernel) ⟨Nat.le_of_ble_eq_true rfl, Nat.le_of_ble_eq_true rfl⟩) e2 rfl rfl (Nat.le_of_ble_eq_true rfl) dL_law_670 ?_
  exact l_eq B dL_law_673 (by decide) (next A1 M1 hR1)
set_option maxHeartbeats 4000000 in
set_option maxRecDepth 100000 in
theorem law_case_14 (B : Lx p s m meth c D cA aX aM b L xs) {n : Nat} (hn : n ≤ 64) (hR : Rel n A M) {v1 : Int32} (h1 : vp_in (x3 + 1) L ∧ xs (x3 + 1).toNatClampNeg = v1) (next : ∀ A1 M1 : Mem, Rel (n + 1) A1 M1 → LG p l e s m below meth c D cA aX aM b A1 M1 x3 1224 []) : LG p l e s m below meth c D cA aX aM b A M x3 678 [] := by
  obtain ⟨r, A1, M1, e1, e2, hR1⟩ := sim_tree hR v1
  refine l_ax B dL_law_678 ?_
  refine l_arg (k := 1) B dL_law_679 dL_law_680 dL_law_681 dL_law_682 dL_law_683 (by decide) h1 ?_
  refine l_callX (As := [.int v1]) (st := []) B (k_X8_tree l D cA aX B.2.2.2.2.2.2.2.2.2.2.2.1 v1 A) (cwV 1 B.2.2.2.2.2.1 gL_law_X8_tree rfl rfl rfl (by decide +kernel) ⟨Nat.le_of_ble_eq_true rfl, Nat.le_of_ble_eq_true rfl⟩) e1 rfl rfl (Nat.le_of_ble_eq_true rfl) dL_law_684 ?_
  refine l_am B dL_law_687 ?_
  refine l_arg (k := 1) B dL_law_688 dL_law_689 dL_law_690 dL_law_691 dL_law_692 (by decide) h1 ?_
  refine l_callM (As := [.int v1]) (st := [.int r]) B (k_X9_tree l D cA aM B.2.2.2.2.2.2.2.2.2.2.2.2.1 v1 M) (cwV 1 B.2.2.2.2.2.1 gL_law_X9_tree rfl rfl rfl (by decide +kernel) ⟨Nat.le_of_ble_eq_true rfl, Nat.le_of_ble_eq_true rfl⟩) e2 rfl rfl (Nat.le_of_ble_eq_true rfl) dL_law_693 ?_
  exact l_eq B dL_law_696 (by decide) (next A1 M1 hR1)
set_option maxHeartbeats 4000000 in
set_option maxRecDepth 100000 in
theorem law_case_15 (B : Lx p s m meth c D cA aX aM b L xs) {n : Nat} (hn : n ≤ 64) (hR : Rel n A M) {v1 : Int32} (h1 : vp_in (x3 + 1) L ∧ xs (x3 + 1).toNatClampNeg = v1) (next : ∀ A1 M1 : Mem, Rel (n + 1) A1 M1 → LG p l e s m below meth c D cA aX aM b A1 M1 x3 1224 []) : LG p l e s m below meth c D cA aX aM b A M x3 701 [] := by
  obtain ⟨r, A1, M1, e1, e2, hR1⟩ := sim_errands hR v1
  refine l_ax B dL_law_701 ?_
  refine l_arg (k := 1) B dL_law_702 dL_law_703 dL_law_704 dL_law_705 dL_law_706 (by decide) h1 ?_
  refine l_callX (As := [.int v1]) (st := []) B (k_X8_errands l D cA aX B.2.2.2.2.2.2.2.2.2.2.2.1 v1 A) (cwV 1 B.2.2.2.2.2.1 gL_law_X8_errands rfl rfl rfl (by decide +kernel) ⟨Nat.le_of_ble_eq_true rfl, Nat.le_of_ble_eq_true rfl⟩) e1 rfl rfl (Nat.le_of_ble_eq_true rfl) dL_law_707 ?_
  refine l_am B dL_law_710 ?_
  refine l_arg (k := 1) B dL_law_711 dL_law_712 dL_law_713 dL_law_714 dL_law_715 (by decide) h1 ?_
  refine l_callM (As := [.int v1]) (st := [.int r]) B (k_X9_errands l D cA aM B.2.2.2.2.2.2.2.2.2.2.2.2.1 v1 M) (cwV 1 B.2.2.2.2.2.1 gL_law_X9_errands rfl rfl rfl (by decide +kernel) ⟨Nat.le_of_ble_eq_true rfl, Nat.le_of_ble_eq_true rfl⟩) e2 rfl rfl (Nat.le_of_ble_eq_true rfl) dL_law_716 ?_
  exact l_eq B dL_law_719 (by decide) (next A1 M1 hR1)
end LC1