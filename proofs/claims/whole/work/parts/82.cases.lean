/-! THE LAW: its cases -/
set_option maxHeartbeats 4000000 in
set_option maxRecDepth 100000 in
theorem lc_pairOf {p : Program} {l : Launch} {e0 : Env} {s : State} {m : MethodId} {below : List Frame} {meth : Method} {c : Code} {b L : Nat} {xs : Nat → Int32} {D : va_G} {cy : Nat → ClassId} {hSP hMo : Nat} {σ : Nat → Nat → Int32} {v e k : Nat} {C M : va_W} {H : Heap} {locs : List Loc} {ls : Array Slot} (X : LX p s m c b L xs D cy) (hL : L ≤ 2560) (hi : 5 * k + 5 ≤ L) (I : LI s D cy hSP hMo σ v e k C M H locs) (hl : lv_has ls 4 [(0, .ref b), (1, .ref hSP), (2, .ref hMo), (3, .int (nI (5 * k)))]) (nx : ∀ σ' v' e' C' M' H' locs', LI s D cy hSP hMo σ' v' e' (k + 1) C' M' H' locs' → W p l e0 room_1 s m #[Value.ref b] below meth c H' locs' (56 + 20 * (k + 1)) (30000 + 10529 * (k + 1)) (lw_Z below #[Value.ref b] s) (F0 m 891 ls [])) : W p l e0 room_1 s m #[Value.ref b] below meth c H locs (56 + 20 * k) (30000 + 10529 * k) (lw_Z below #[Value.ref b] s) (F0 m 493 ls []) := by
  obtain ⟨hx, hb, hml, hown, htl, hX, hbl, hK, hN⟩ := X
  obtain ⟨hP, hD, hS, hC, hM⟩ := I
  have hA : ∀ q : Nat, s.heap.size ≤ q → (fun q : Nat => s.heap.size ≤ q) q := fun _ h => h
  have hbA : ¬ (fun q : Nat => s.heap.size ≤ q) b := Nat.not_le.mpr hbl
  refine lv_aload_n hx hb dL_law_493 rfl (lv_at hl 1 rfl) ?_
  refine lv_aload_n hx hb dL_law_494 rfl (lv_at hl 0 rfl) ?_
  refine lv_iload_n hx hb dL_law_495 rfl (lv_at hl 3 rfl) ?_
  refine lv_iconst (v := 1) hx hb dL_law_496 (by decide) ?_
  refine lv_iadd hx hb dL_law_497 ?_
  refine va_sld hx hb hX hbl hbA hS (inL (j := 1) hL hi (by omega)) dL_law_498 ?_
  refine lv_aload_n hx hb dL_law_499 rfl (lv_at hl 0 rfl) ?_
  refine lv_iload_n hx hb dL_law_500 rfl (lv_at hl 3 rfl) ?_
  refine lv_iconst (v := 2) hx hb dL_law_501 (by decide) ?_
  refine lv_iadd hx hb dL_law_502 ?_
  refine va_sld hx hb hX hbl hbA hS (inL (j := 2) hL hi (by omega)) dL_law_503 ?_
  refine ldC_i hP hD hS hA (va_runV (As := [.int (xs (nI (5 * k) + 1).toNatClampNeg), .int (xs (nI (5 * k) + 2).toNatClampNeg)]) (rest := []) ⟨hx, hb, hml, hown, htl⟩ (c_X5_pairOf l D (xs (nI (5 * k) + 1).toNatClampNeg) (xs (nI (5 * k) + 2).toNatClampNeg) H.size (by omega) hC) (cwV 2 htl (gV mw_20_21 mw_20_22 mw_20_23 mw_1_2 mw_21_0) rfl rfl rfl (by decide +kernel) ⟨Nat.le_of_ble_eq_true rfl, Nat.le_of_ble_eq_true rfl⟩) (lPreC hN hK hP hD hC _) rfl rfl hl.1 rfl (lv_room (Nat.le_of_ble_eq_true rfl)) dL_law_504 ⟨by show 56 + 20 * k + 0 ≤ 600000; omega, by show 30000 + 10529 * k + 0 ≤ 7302250; omega⟩) (fun r C H locs h5 hP hD hS => ?_)
  refine lv_aload_n hx hb dL_law_507 rfl (lv_at hl 2 rfl) ?_
  refine lv_aload_n hx hb dL_law_508 rfl (lv_at hl 0 rfl) ?_
  refine lv_iload_n hx hb dL_law_509 rfl (lv_at hl 3 rfl) ?_
  refine lv_iconst (v := 1) hx hb dL_law_510 (by decide) ?_
  refine lv_iadd hx hb dL_law_511 ?_
  refine va_sld hx hb hX hbl hbA hS (inL (j := 1) hL hi (by omega)) dL_law_512 ?_
  refine lv_aload_n hx hb dL_law_513 rfl (lv_at hl 0 rfl) ?_
  refine lv_iload_n hx hb dL_law_514 rfl (lv_at hl 3 rfl) ?_
  refine lv_iconst (v := 2) hx hb dL_law_515 (by decide) ?_
  refine lv_iadd hx hb dL_law_516 ?_
  refine va_sld hx hb hX hbl hbA hS (inL (j := 2) hL hi (by omega)) dL_law_517 ?_
  refine ldM_i hP hD hS hA (va_runV (As := [.int (xs (nI (5 * k) + 1).toNatClampNeg), .int (xs (nI (5 * k) + 2).toNatClampNeg)]) (rest := [.int r]) ⟨hx, hb, hml, hown, htl⟩ (c_X6_pairOf l D (xs (nI (5 * k) + 1).toNatClampNeg) (xs (nI (5 * k) + 2).toNatClampNeg) H.size hM) (cwV 2 htl (gV mw_21_9 mw_21_10 mw_21_11 mw_1_5 mw_21_12) rfl rfl rfl (by decide +kernel) ⟨Nat.le_of_ble_eq_true rfl, Nat.le_of_ble_eq_true rfl⟩) (lPreM hN hK hP hD hM _) rfl rfl hl.1 rfl (lv_room (Nat.le_of_ble_eq_true rfl)) dL_law_518 ⟨by show 56 + 20 * k + 0 + 0 ≤ 600000; omega, by show 30000 + 10529 * k + 0 + 0 ≤ 7302250; omega⟩) (fun r2 M H locs h6 hP hD hS => ?_)
  have heq := h5.1.trans h6.1.symm
  refine lv_icmp_eq (tgt := 891) hx hb dL_law_521 (by decide) (fun c0 => ?_) (fun c0 => ?_)
  · refine W.widen (k := 56 + 20 * (k + 1)) (n := 30000 + 10529 * (k + 1)) (by omega) (by omega) ?_
    exact nx _ _ _ _ _ _ _ ⟨hP, hD, hS, h5.2, h6.2⟩
  · exact absurd heq c0
set_option maxHeartbeats 4000000 in
set_option maxRecDepth 100000 in
theorem lc_solution {p : Program} {l : Launch} {e0 : Env} {s : State} {m : MethodId} {below : List Frame} {meth : Method} {c : Code} {b L : Nat} {xs : Nat → Int32} {D : va_G} {cy : Nat → ClassId} {hSP hMo : Nat} {σ : Nat → Nat → Int32} {v e k : Nat} {C M : va_W} {H : Heap} {locs : List Loc} {ls : Array Slot} (X : LX p s m c b L xs D cy) (hL : L ≤ 2560) (hi : 5 * k + 5 ≤ L) (I : LI s D cy hSP hMo σ v e k C M H locs) (hl : lv_has ls 4 [(0, .ref b), (1, .ref hSP), (2, .ref hMo), (3, .int (nI (5 * k)))]) (nx : ∀ σ' v' e' C' M' H' locs', LI s D cy hSP hMo σ' v' e' (k + 1) C' M' H' locs' → W p l e0 room_1 s m #[Value.ref b] below meth c H' locs' (56 + 20 * (k + 1)) (30000 + 10529 * (k + 1)) (lw_Z below #[Value.ref b] s) (F0 m 891 ls [])) : W p l e0 room_1 s m #[Value.ref b] below meth c H locs (56 + 20 * k) (30000 + 10529 * k) (lw_Z below #[Value.ref b] s) (F0 m 526 ls []) := by
  obtain ⟨hx, hb, hml, hown, htl, hX, hbl, hK, hN⟩ := X
  obtain ⟨hP, hD, hS, hC, hM⟩ := I
  have hA : ∀ q : Nat, s.heap.size ≤ q → (fun q : Nat => s.heap.size ≤ q) q := fun _ h => h
  have hbA : ¬ (fun q : Nat => s.heap.size ≤ q) b := Nat.not_le.mpr hbl
  refine lv_aload_n hx hb dL_law_526 rfl (lv_at hl 1 rfl) ?_
  refine lv_aload_n hx hb dL_law_527 rfl (lv_at hl 0 rfl) ?_
  refine lv_iload_n hx hb dL_law_528 rfl (lv_at hl 3 rfl) ?_
  refine lv_iconst (v := 1) hx hb dL_law_529 (by decide) ?_
  refine lv_iadd hx hb dL_law_530 ?_
  refine va_sld hx hb hX hbl hbA hS (inL (j := 1) hL hi (by omega)) dL_law_531 ?_
  refine lv_aload_n hx hb dL_law_532 rfl (lv_at hl 0 rfl) ?_
  refine lv_iload_n hx hb dL_law_533 rfl (lv_at hl 3 rfl) ?_
  refine lv_iconst (v := 2) hx hb dL_law_534 (by decide) ?_
  refine lv_iadd hx hb dL_law_535 ?_
  refine va_sld hx hb hX hbl hbA hS (inL (j := 2) hL hi (by omega)) dL_law_536 ?_
  refine ldC_i hP hD hS hA (va_runV (As := [.int (xs (nI (5 * k) + 1).toNatClampNeg), .int (xs (nI (5 * k) + 2).toNatClampNeg)]) (rest := []) ⟨hx, hb, hml, hown, htl⟩ (c_X5_solution l D (xs (nI (5 * k) + 1).toNatClampNeg) (xs (nI (5 * k) + 2).toNatClampNeg) H.size (by omega) hC) (cwV 2 htl (gV mw_21_13 mw_21_14 mw_21_15 mw_1_2 mw_21_16) rfl rfl rfl (by decide +kernel) ⟨Nat.le_of_ble_eq_true rfl, Nat.le_of_ble_eq_true rfl⟩) (lPreC hN hK hP hD hC _) rfl rfl hl.1 rfl (lv_room (Nat.le_of_ble_eq_true rfl)) dL_law_537 ⟨by show 56 + 20 * k + 0 ≤ 600000; omega, by show 30000 + 10529 * k + 0 ≤ 7302250; omega⟩) (fun r C H locs h5 hP hD hS => ?_)
  refine lv_aload_n hx hb dL_law_540 rfl (lv_at hl 2 rfl) ?_
  refine lv_aload_n hx hb dL_law_541 rfl (lv_at hl 0 rfl) ?_
  refine lv_iload_n hx hb dL_law_542 rfl (lv_at hl 3 rfl) ?_
  refine lv_iconst (v := 1) hx hb dL_law_543 (by decide) ?_
  refine lv_iadd hx hb dL_law_544 ?_
  refine va_sld hx hb hX hbl hbA hS (inL (j := 1) hL hi (by omega)) dL_law_545 ?_
  refine lv_aload_n hx hb dL_law_546 rfl (lv_at hl 0 rfl) ?_
  refine lv_iload_n hx hb dL_law_547 rfl (lv_at hl 3 rfl) ?_
  refine lv_iconst (v := 2) hx hb dL_law_548 (by decide) ?_
  refine lv_iadd hx hb dL_law_549 ?_
  refine va_sld hx hb hX hbl hbA hS (inL (j := 2) hL hi (by omega)) dL_law_550 ?_
  refine ldM_i hP hD hS hA (va_runV (As := [.int (xs (nI (5 * k) + 1).toNatClampNeg), .int (xs (nI (5 * k) + 2).toNatClampNeg)]) (rest := [.int r]) ⟨hx, hb, hml, hown, htl⟩ (c_X6_solution l D (xs (nI (5 * k) + 1).toNatClampNeg) (xs (nI (5 * k) + 2).toNatClampNeg) H.size hM) (cwV 2 htl (gV mw_22_11 mw_22_12 mw_22_13 mw_1_5 mw_22_14) rfl rfl rfl (by decide +kernel) ⟨Nat.le_of_ble_eq_true rfl, Nat.le_of_ble_eq_true rfl⟩) (lPreM hN hK hP hD hM _) rfl rfl hl.1 rfl (lv_room (Nat.le_of_ble_eq_true rfl)) dL_law_551 ⟨by show 56 + 20 * k + 0 + 0 ≤ 600000; omega, by show 30000 + 10529 * k + 0 + 0 ≤ 7302250; omega⟩) (fun r2 M H locs h6 hP hD hS => ?_)
  have heq := h5.1.trans h6.1.symm
  refine lv_icmp_eq (tgt := 891) hx hb dL_law_554 (by decide) (fun c0 => ?_) (fun c0 => ?_)
  · refine W.widen (k := 56 + 20 * (k + 1)) (n := 30000 + 10529 * (k + 1)) (by omega) (by omega) ?_
    exact nx _ _ _ _ _ _ _ ⟨hP, hD, hS, h5.2, h6.2⟩
  · exact absurd heq c0
set_option maxHeartbeats 4000000 in
set_option maxRecDepth 100000 in
theorem lc_signAt {p : Program} {l : Launch} {e0 : Env} {s : State} {m : MethodId} {below : List Frame} {meth : Method} {c : Code} {b L : Nat} {xs : Nat → Int32} {D : va_G} {cy : Nat → ClassId} {hSP hMo : Nat} {σ : Nat → Nat → Int32} {v e k : Nat} {C M : va_W} {H : Heap} {locs : List Loc} {ls : Array Slot} (X : LX p s m c b L xs D cy) (hL : L ≤ 2560) (hi : 5 * k + 5 ≤ L) (I : LI s D cy hSP hMo σ v e k C M H locs) (hl : lv_has ls 4 [(0, .ref b), (1, .ref hSP), (2, .ref hMo), (3, .int (nI (5 * k)))]) (nx : ∀ σ' v' e' C' M' H' locs', LI s D cy hSP hMo σ' v' e' (k + 1) C' M' H' locs' → W p l e0 room_1 s m #[Value.ref b] below meth c H' locs' (56 + 20 * (k + 1)) (30000 + 10529 * (k + 1)) (lw_Z below #[Value.ref b] s) (F0 m 891 ls [])) : W p l e0 room_1 s m #[Value.ref b] below meth c H locs (56 + 20 * k) (30000 + 10529 * k) (lw_Z below #[Value.ref b] s) (F0 m 559 ls []) := by
  obtain ⟨hx, hb, hml, hown, htl, hX, hbl, hK, hN⟩ := X
  obtain ⟨hP, hD, hS, hC, hM⟩ := I
  have hA : ∀ q : Nat, s.heap.size ≤ q → (fun q : Nat => s.heap.size ≤ q) q := fun _ h => h
  have hbA : ¬ (fun q : Nat => s.heap.size ≤ q) b := Nat.not_le.mpr hbl
  refine lv_aload_n hx hb dL_law_559 rfl (lv_at hl 1 rfl) ?_
  refine lv_aload_n hx hb dL_law_560 rfl (lv_at hl 0 rfl) ?_
  refine lv_iload_n hx hb dL_law_561 rfl (lv_at hl 3 rfl) ?_
  refine lv_iconst (v := 1) hx hb dL_law_562 (by decide) ?_
  refine lv_iadd hx hb dL_law_563 ?_
  refine va_sld hx hb hX hbl hbA hS (inL (j := 1) hL hi (by omega)) dL_law_564 ?_
  refine lv_aload_n hx hb dL_law_565 rfl (lv_at hl 0 rfl) ?_
  refine lv_iload_n hx hb dL_law_566 rfl (lv_at hl 3 rfl) ?_
  refine lv_iconst (v := 2) hx hb dL_law_567 (by decide) ?_
  refine lv_iadd hx hb dL_law_568 ?_
  refine va_sld hx hb hX hbl hbA hS (inL (j := 2) hL hi (by omega)) dL_law_569 ?_
  refine lv_aload_n hx hb dL_law_570 rfl (lv_at hl 0 rfl) ?_
  refine lv_iload_n hx hb dL_law_571 rfl (lv_at hl 3 rfl) ?_
  refine lv_iconst (v := 3) hx hb dL_law_572 (by decide) ?_
  refine lv_iadd hx hb dL_law_573 ?_
  refine va_sld hx hb hX hbl hbA hS (inL (j := 3) hL hi (by omega)) dL_law_574 ?_
  refine lv_aload_n hx hb dL_law_575 rfl (lv_at hl 0 rfl) ?_
  refine lv_iload_n hx hb dL_law_576 rfl (lv_at hl 3 rfl) ?_
  refine lv_iconst (v := 4) hx hb dL_law_577 (by decide) ?_
  refine lv_iadd hx hb dL_law_578 ?_
  refine va_sld hx hb hX hbl hbA hS (inL (j := 4) hL hi (by omega)) dL_law_579 ?_
  refine ldC_i hP hD hS hA (va_runV (As := [.int (xs (nI (5 * k) + 1).toNatClampNeg), .int (xs (nI (5 * k) + 2).toNatClampNeg), .int (xs (nI (5 * k) + 3).toNatClampNeg), .int (xs (nI (5 * k) + 4).toNatClampNeg)]) (rest := []) ⟨hx, hb, hml, hown, htl⟩ (c_X5_signAt l D (xs (nI (5 * k) + 1).toNatClampNeg) (xs (nI (5 * k) + 2).toNatClampNeg) (xs (nI (5 * k) + 3).toNatClampNeg) (xs (nI (5 * k) + 4).toNatClampNeg) H.size (by omega) hC) (cwV 4 htl (gV mw_22_23 mw_23_0 mw_23_1 mw_1_2 mw_23_2) rfl rfl rfl (by decide +kernel) ⟨Nat.le_of_ble_eq_true rfl, Nat.le_of_ble_eq_true rfl⟩) (lPreC hN hK hP hD hC _) rfl rfl hl.1 rfl (lv_room (Nat.le_of_ble_eq_true rfl)) dL_law_580 ⟨by show 56 + 20 * k + 0 ≤ 600000; omega, by show 30000 + 10529 * k + 0 ≤ 7302250; omega⟩) (fun r C H locs h5 hP hD hS => ?_)
  refine lv_aload_n hx hb dL_law_583 rfl (lv_at hl 2 rfl) ?_
  refine lv_aload_n hx hb dL_law_584 rfl (lv_at hl 0 rfl) ?_
  refine lv_iload_n hx hb dL_law_585 rfl (lv_at hl 3 rfl) ?_
  refine lv_iconst (v := 1) hx hb dL_law_586 (by decide) ?_
  refine lv_iadd hx hb dL_law_587 ?_
  refine va_sld hx hb hX hbl hbA hS (inL (j := 1) hL hi (by omega)) dL_law_588 ?_
  refine lv_aload_n hx hb dL_law_589 rfl (lv_at hl 0 rfl) ?_
  refine lv_iload_n hx hb dL_law_590 rfl (lv_at hl 3 rfl) ?_
  refine lv_iconst (v := 2) hx hb dL_law_591 (by decide) ?_
  refine lv_iadd hx hb dL_law_592 ?_
  refine va_sld hx hb hX hbl hbA hS (inL (j := 2) hL hi (by omega)) dL_law_593 ?_
  refine lv_aload_n hx hb dL_law_594 rfl (lv_at hl 0 rfl) ?_
  refine lv_iload_n hx hb dL_law_595 rfl (lv_at hl 3 rfl) ?_
  refine lv_iconst (v := 3) hx hb dL_law_596 (by decide) ?_
  refine lv_iadd hx hb dL_law_597 ?_
  refine va_sld hx hb hX hbl hbA hS (inL (j := 3) hL hi (by omega)) dL_law_598 ?_
  refine lv_aload_n hx hb dL_law_599 rfl (lv_at hl 0 rfl) ?_
  refine lv_iload_n hx hb dL_law_600 rfl (lv_at hl 3 rfl) ?_
  refine lv_iconst (v := 4) hx hb dL_law_601 (by decide) ?_
  refine lv_iadd hx hb dL_law_602 ?_
  refine va_sld hx hb hX hbl hbA hS (inL (j := 4) hL hi (by omega)) dL_law_603 ?_
  refine ldM_i hP hD hS hA (va_runV (As := [.int (xs (nI (5 * k) + 1).toNatClampNeg), .int (xs (nI (5 * k) + 2).toNatClampNeg), .int (xs (nI (5 * k) + 3).toNatClampNeg), .int (xs (nI (5 * k) + 4).toNatClampNeg)]) (rest := [.int r]) ⟨hx, hb, hml, hown, htl⟩ (c_X6_signAt l D (xs (nI (5 * k) + 1).toNatClampNeg) (xs (nI (5 * k) + 2).toNatClampNeg) (xs (nI (5 * k) + 3).toNatClampNeg) (xs (nI (5 * k) + 4).toNatClampNeg) H.size hM) (cwV 4 htl (gV mw_23_3 mw_23_4 mw_23_5 mw_1_5 mw_23_6) rfl rfl rfl (by decide +kernel) ⟨Nat.le_of_ble_eq_true rfl, Nat.le_of_ble_eq_true rfl⟩) (lPreM hN hK hP hD hM _) rfl rfl hl.1 rfl (lv_room (Nat.le_of_ble_eq_true rfl)) dL_law_604 ⟨by show 56 + 20 * k + 0 + 0 ≤ 600000; omega, by show 30000 + 10529 * k + 0 + 0 ≤ 7302250; omega⟩) (fun r2 M H locs h6 hP hD hS => ?_)
  have heq := h5.1.trans h6.1.symm
  refine lv_icmp_eq (tgt := 891) hx hb dL_law_607 (by decide) (fun c0 => ?_) (fun c0 => ?_)
  · refine W.widen (k := 56 + 20 * (k + 1)) (n := 30000 + 10529 * (k + 1)) (by omega) (by omega) ?_
    exact nx _ _ _ _ _ _ _ ⟨hP, hD, hS, h5.2, h6.2⟩
  · exact absurd heq c0
set_option maxHeartbeats 4000000 in
set_option maxRecDepth 100000 in
theorem lc_kept {p : Program} {l : Launch} {e0 : Env} {s : State} {m : MethodId} {below : List Frame} {meth : Method} {c : Code} {b L : Nat} {xs : Nat → Int32} {D : va_G} {cy : Nat → ClassId} {hSP hMo : Nat} {σ : Nat → Nat → Int32} {v e k : Nat} {C M : va_W} {H : Heap} {locs : List Loc} {ls : Array Slot} (X : LX p s m c b L xs D cy) (hL : L ≤ 2560) (hi : 5 * k + 5 ≤ L) (I : LI s D cy hSP hMo σ v e k C M H locs) (hl : lv_has ls 4 [(0, .ref b), (1, .ref hSP), (2, .ref hMo), (3, .int (nI (5 * k)))]) (nx : ∀ σ' v' e' C' M' H' locs', LI s D cy hSP hMo σ' v' e' (k + 1) C' M' H' locs' → W p l e0 room_1 s m #[Value.ref b] below meth c H' locs' (56 + 20 * (k + 1)) (30000 + 10529 * (k + 1)) (lw_Z below #[Value.ref b] s) (F0 m 891 ls [])) : W p l e0 room_1 s m #[Value.ref b] below meth c H locs (56 + 20 * k) (30000 + 10529 * k) (lw_Z below #[Value.ref b] s) (F0 m 612 ls []) := by
  obtain ⟨hx, hb, hml, hown, htl, hX, hbl, hK, hN⟩ := X
  obtain ⟨hP, hD, hS, hC, hM⟩ := I
  have hA : ∀ q : Nat, s.heap.size ≤ q → (fun q : Nat => s.heap.size ≤ q) q := fun _ h => h
  have hbA : ¬ (fun q : Nat => s.heap.size ≤ q) b := Nat.not_le.mpr hbl
  refine lv_aload_n hx hb dL_law_612 rfl (lv_at hl 1 rfl) ?_
  refine lv_aload_n hx hb dL_law_613 rfl (lv_at hl 0 rfl) ?_
  refine lv_iload_n hx hb dL_law_614 rfl (lv_at hl 3 rfl) ?_
  refine lv_iconst (v := 1) hx hb dL_law_615 (by decide) ?_
  refine lv_iadd hx hb dL_law_616 ?_
  refine va_sld hx hb hX hbl hbA hS (inL (j := 1) hL hi (by omega)) dL_law_617 ?_
  refine ldC_i hP hD hS hA (va_runV (As := [.int (xs (nI (5 * k) + 1).toNatClampNeg)]) (rest := []) ⟨hx, hb, hml, hown, htl⟩ (c_X5_kept l D (xs (nI (5 * k) + 1).toNatClampNeg) H.size (by omega) hC) (cwV 1 htl (gV mw_23_7 mw_23_8 mw_23_9 mw_1_2 mw_23_10) rfl rfl rfl (by decide +kernel) ⟨Nat.le_of_ble_eq_true rfl, Nat.le_of_ble_eq_true rfl⟩) (lPreC hN hK hP hD hC _) rfl rfl hl.1 rfl (lv_room (Nat.le_of_ble_eq_true rfl)) dL_law_618 ⟨by show 56 + 20 * k + 0 ≤ 600000; omega, by show 30000 + 10529 * k + 0 ≤ 7302250; omega⟩) (fun r C H locs h5 hP hD hS => ?_)
  refine lv_aload_n hx hb dL_law_621 rfl (lv_at hl 2 rfl) ?_
  refine lv_aload_n hx hb dL_law_622 rfl (lv_at hl 0 rfl) ?_
  refine lv_iload_n hx hb dL_law_623 rfl (lv_at hl 3 rfl) ?_
  refine lv_iconst (v := 1) hx hb dL_law_624 (by decide) ?_
  refine lv_iadd hx hb dL_law_625 ?_
  refine va_sld hx hb hX hbl hbA hS (inL (j := 1) hL hi (by omega)) dL_law_626 ?_
  refine ldM_i hP hD hS hA (va_runV (As := [.int (xs (nI (5 * k) + 1).toNatClampNeg)]) (rest := [.int r]) ⟨hx, hb, hml, hown, htl⟩ (c_X6_kept l D (xs (nI (5 * k) + 1).toNatClampNeg) H.size hM) (cwV 1 htl (gV mw_23_13 mw_23_14 mw_23_15 mw_1_5 mw_23_16) rfl rfl rfl (by decide +kernel) ⟨Nat.le_of_ble_eq_true rfl, Nat.le_of_ble_eq_true rfl⟩) (lPreM hN hK hP hD hM _) rfl rfl hl.1 rfl (lv_room (Nat.le_of_ble_eq_true rfl)) dL_law_627 ⟨by show 56 + 20 * k + 0 + 0 ≤ 600000; omega, by show 30000 + 10529 * k + 0 + 0 ≤ 7302250; omega⟩) (fun r2 M H locs h6 hP hD hS => ?_)
  have heq := h5.1.trans h6.1.symm
  refine lv_icmp_eq (tgt := 891) hx hb dL_law_630 (by decide) (fun c0 => ?_) (fun c0 => ?_)
  · refine W.widen (k := 56 + 20 * (k + 1)) (n := 30000 + 10529 * (k + 1)) (by omega) (by omega) ?_
    exact nx _ _ _ _ _ _ _ ⟨hP, hD, hS, h5.2, h6.2⟩
  · exact absurd heq c0
set_option maxHeartbeats 4000000 in
set_option maxRecDepth 100000 in
theorem lc_axis {p : Program} {l : Launch} {e0 : Env} {s : State} {m : MethodId} {below : List Frame} {meth : Method} {c : Code} {b L : Nat} {xs : Nat → Int32} {D : va_G} {cy : Nat → ClassId} {hSP hMo : Nat} {σ : Nat → Nat → Int32} {v e k : Nat} {C M : va_W} {H : Heap} {locs : List Loc} {ls : Array Slot} (X : LX p s m c b L xs D cy) (hL : L ≤ 2560) (hi : 5 * k + 5 ≤ L) (I : LI s D cy hSP hMo σ v e k C M H locs) (hl : lv_has ls 4 [(0, .ref b), (1, .ref hSP), (2, .ref hMo), (3, .int (nI (5 * k)))]) (nx : ∀ σ' v' e' C' M' H' locs', LI s D cy hSP hMo σ' v' e' (k + 1) C' M' H' locs' → W p l e0 room_1 s m #[Value.ref b] below meth c H' locs' (56 + 20 * (k + 1)) (30000 + 10529 * (k + 1)) (lw_Z below #[Value.ref b] s) (F0 m 891 ls [])) : W p l e0 room_1 s m #[Value.ref b] below meth c H locs (56 + 20 * k) (30000 + 10529 * k) (lw_Z below #[Value.ref b] s) (F0 m 635 ls []) := by
  obtain ⟨hx, hb, hml, hown, htl, hX, hbl, hK, hN⟩ := X
  obtain ⟨hP, hD, hS, hC, hM⟩ := I
  have hA : ∀ q : Nat, s.heap.size ≤ q → (fun q : Nat => s.heap.size ≤ q) q := fun _ h => h
  have hbA : ¬ (fun q : Nat => s.heap.size ≤ q) b := Nat.not_le.mpr hbl
  refine lv_aload_n hx hb dL_law_635 rfl (lv_at hl 1 rfl) ?_
  refine lv_aload_n hx hb dL_law_636 rfl (lv_at hl 0 rfl) ?_
  refine lv_iload_n hx hb dL_law_637 rfl (lv_at hl 3 rfl) ?_
  refine lv_iconst (v := 1) hx hb dL_law_638 (by decide) ?_
  refine lv_iadd hx hb dL_law_639 ?_
  refine va_sld hx hb hX hbl hbA hS (inL (j := 1) hL hi (by omega)) dL_law_640 ?_
  refine lv_aload_n hx hb dL_law_641 rfl (lv_at hl 0 rfl) ?_
  refine lv_iload_n hx hb dL_law_642 rfl (lv_at hl 3 rfl) ?_
  refine lv_iconst (v := 2) hx hb dL_law_643 (by decide) ?_
  refine lv_iadd hx hb dL_law_644 ?_
  refine va_sld hx hb hX hbl hbA hS (inL (j := 2) hL hi (by omega)) dL_law_645 ?_
  refine ldC_i hP hD hS hA (va_runV (As := [.int (xs (nI (5 * k) + 1).toNatClampNeg), .int (xs (nI (5 * k) + 2).toNatClampNeg)]) (rest := []) ⟨hx, hb, hml, hown, htl⟩ (c_X5_axis l D (xs (nI (5 * k) + 1).toNatClampNeg) (xs (nI (5 * k) + 2).toNatClampNeg) H.size (by omega) hC) (cwV 2 htl (gV mw_23_17 mw_23_18 mw_23_19 mw_1_2 mw_23_20) rfl rfl rfl (by decide +kernel) ⟨Nat.le_of_ble_eq_true rfl, Nat.le_of_ble_eq_true rfl⟩) (lPreC hN hK hP hD hC _) rfl rfl hl.1 rfl (lv_room (Nat.le_of_ble_eq_true rfl)) dL_law_646 ⟨by show 56 + 20 * k + 0 ≤ 600000; omega, by show 30000 + 10529 * k + 0 ≤ 7302250; omega⟩) (fun r C H locs h5 hP hD hS => ?_)
  refine lv_aload_n hx hb dL_law_649 rfl (lv_at hl 2 rfl) ?_
  refine lv_aload_n hx hb dL_law_650 rfl (lv_at hl 0 rfl) ?_
  refine lv_iload_n hx hb dL_law_651 rfl (lv_at hl 3 rfl) ?_
  refine lv_iconst (v := 1) hx hb dL_law_652 (by decide) ?_
  refine lv_iadd hx hb dL_law_653 ?_
  refine va_sld hx hb hX hbl hbA hS (inL (j := 1) hL hi (by omega)) dL_law_654 ?_
  refine lv_aload_n hx hb dL_law_655 rfl (lv_at hl 0 rfl) ?_
  refine lv_iload_n hx hb dL_law_656 rfl (lv_at hl 3 rfl) ?_
  refine lv_iconst (v := 2) hx hb dL_law_657 (by decide) ?_
  refine lv_iadd hx hb dL_law_658 ?_
  refine va_sld hx hb hX hbl hbA hS (inL (j := 2) hL hi (by omega)) dL_law_659 ?_
  refine ldM_i hP hD hS hA (va_runV (As := [.int (xs (nI (5 * k) + 1).toNatClampNeg), .int (xs (nI (5 * k) + 2).toNatClampNeg)]) (rest := [.int r]) ⟨hx, hb, hml, hown, htl⟩ (c_X6_axis l D (xs (nI (5 * k) + 1).toNatClampNeg) (xs (nI (5 * k) + 2).toNatClampNeg) H.size hM) (cwV 2 htl (gV mw_24_1 mw_24_2 mw_24_3 mw_1_5 mw_24_4) rfl rfl rfl (by decide +kernel) ⟨Nat.le_of_ble_eq_true rfl, Nat.le_of_ble_eq_true rfl⟩) (lPreM hN hK hP hD hM _) rfl rfl hl.1 rfl (lv_room (Nat.le_of_ble_eq_true rfl)) dL_law_660 ⟨by show 56 + 20 * k + 0 + 0 ≤ 600000; omega, by show 30000 + 10529 * k + 0 + 0 ≤ 7302250; omega⟩) (fun r2 M H locs h6 hP hD hS => ?_)
  have heq := h5.1.trans h6.1.symm
  refine lv_icmp_eq (tgt := 891) hx hb dL_law_663 (by decide) (fun c0 => ?_) (fun c0 => ?_)
  · refine W.widen (k := 56 + 20 * (k + 1)) (n := 30000 + 10529 * (k + 1)) (by omega) (by omega) ?_
    exact nx _ _ _ _ _ _ _ ⟨hP, hD, hS, h5.2, h6.2⟩
  · exact absurd heq c0
set_option maxHeartbeats 4000000 in
set_option maxRecDepth 100000 in
theorem lc_apart {p : Program} {l : Launch} {e0 : Env} {s : State} {m : MethodId} {below : List Frame} {meth : Method} {c : Code} {b L : Nat} {xs : Nat → Int32} {D : va_G} {cy : Nat → ClassId} {hSP hMo : Nat} {σ : Nat → Nat → Int32} {v e k : Nat} {C M : va_W} {H : Heap} {locs : List Loc} {ls : Array Slot} (X : LX p s m c b L xs D cy) (hL : L ≤ 2560) (hi : 5 * k + 5 ≤ L) (I : LI s D cy hSP hMo σ v e k C M H locs) (hl : lv_has ls 4 [(0, .ref b), (1, .ref hSP), (2, .ref hMo), (3, .int (nI (5 * k)))]) (nx : ∀ σ' v' e' C' M' H' locs', LI s D cy hSP hMo σ' v' e' (k + 1) C' M' H' locs' → W p l e0 room_1 s m #[Value.ref b] below meth c H' locs' (56 + 20 * (k + 1)) (30000 + 10529 * (k + 1)) (lw_Z below #[Value.ref b] s) (F0 m 891 ls [])) : W p l e0 room_1 s m #[Value.ref b] below meth c H locs (56 + 20 * k) (30000 + 10529 * k) (lw_Z below #[Value.ref b] s) (F0 m 668 ls []) := by
  obtain ⟨hx, hb, hml, hown, htl, hX, hbl, hK, hN⟩ := X
  obtain ⟨hP, hD, hS, hC, hM⟩ := I
  have hA : ∀ q : Nat, s.heap.size ≤ q → (fun q : Nat => s.heap.size ≤ q) q := fun _ h => h
  have hbA : ¬ (fun q : Nat => s.heap.size ≤ q) b := Nat.not_le.mpr hbl
  refine lv_aload_n hx hb dL_law_668 rfl (lv_at hl 1 rfl) ?_
  refine lv_aload_n hx hb dL_law_669 rfl (lv_at hl 0 rfl) ?_
  refine lv_iload_n hx hb dL_law_670 rfl (lv_at hl 3 rfl) ?_
  refine lv_iconst (v := 1) hx hb dL_law_671 (by decide) ?_
  refine lv_iadd hx hb dL_law_672 ?_
  refine va_sld hx hb hX hbl hbA hS (inL (j := 1) hL hi (by omega)) dL_law_673 ?_
  refine lv_aload_n hx hb dL_law_674 rfl (lv_at hl 0 rfl) ?_
  refine lv_iload_n hx hb dL_law_675 rfl (lv_at hl 3 rfl) ?_
  refine lv_iconst (v := 2) hx hb dL_law_676 (by decide) ?_
  refine lv_iadd hx hb dL_law_677 ?_
  refine va_sld hx hb hX hbl hbA hS (inL (j := 2) hL hi (by omega)) dL_law_678 ?_
  refine lv_aload_n hx hb dL_law_679 rfl (lv_at hl 0 rfl) ?_
  refine lv_iload_n hx hb dL_law_680 rfl (lv_at hl 3 rfl) ?_
  refine lv_iconst (v := 3) hx hb dL_law_681 (by decide) ?_
  refine lv_iadd hx hb dL_law_682 ?_
  refine va_sld hx hb hX hbl hbA hS (inL (j := 3) hL hi (by omega)) dL_law_683 ?_
  refine ldC_l hP hD hS hA (va_runV (As := [.int (xs (nI (5 * k) + 1).toNatClampNeg), .int (xs (nI (5 * k) + 2).toNatClampNeg), .int (xs (nI (5 * k) + 3).toNatClampNeg)]) (rest := []) ⟨hx, hb, hml, hown, htl⟩ (c_X5_apart l D (xs (nI (5 * k) + 1).toNatClampNeg) (xs (nI (5 * k) + 2).toNatClampNeg) (xs (nI (5 * k) + 3).toNatClampNeg) H.size (by omega) hC) (cwV 3 htl (gV mw_24_5 mw_24_6 mw_24_7 mw_1_2 mw_24_8) rfl rfl rfl (by decide +kernel) ⟨Nat.le_of_ble_eq_true rfl, Nat.le_of_ble_eq_true rfl⟩) (lPreC hN hK hP hD hC _) rfl rfl hl.1 rfl (lv_room (Nat.le_of_ble_eq_true rfl)) dL_law_684 ⟨by show 56 + 20 * k + 0 ≤ 600000; omega, by show 30000 + 10529 * k + 0 ≤ 7302250; omega⟩) (fun r C H locs h5 hP hD hS => ?_)
  refine lv_aload_n hx hb dL_law_687 rfl (lv_at hl 2 rfl) ?_
  refine lv_aload_n hx hb dL_law_688 rfl (lv_at hl 0 rfl) ?_
  refine lv_iload_n hx hb dL_law_689 rfl (lv_at hl 3 rfl) ?_
  refine lv_iconst (v := 1) hx hb dL_law_690 (by decide) ?_
  refine lv_iadd hx hb dL_law_691 ?_
  refine va_sld hx hb hX hbl hbA hS (inL (j := 1) hL hi (by omega)) dL_law_692 ?_
  refine lv_aload_n hx hb dL_law_693 rfl (lv_at hl 0 rfl) ?_
  refine lv_iload_n hx hb dL_law_694 rfl (lv_at hl 3 rfl) ?_
  refine lv_iconst (v := 2) hx hb dL_law_695 (by decide) ?_
  refine lv_iadd hx hb dL_law_696 ?_
  refine va_sld hx hb hX hbl hbA hS (inL (j := 2) hL hi (by omega)) dL_law_697 ?_
  refine lv_aload_n hx hb dL_law_698 rfl (lv_at hl 0 rfl) ?_
  refine lv_iload_n hx hb dL_law_699 rfl (lv_at hl 3 rfl) ?_
  refine lv_iconst (v := 3) hx hb dL_law_700 (by decide) ?_
  refine lv_iadd hx hb dL_law_701 ?_
  refine va_sld hx hb hX hbl hbA hS (inL (j := 3) hL hi (by omega)) dL_law_702 ?_
  refine ldM_l hP hD hS hA (va_runV (As := [.int (xs (nI (5 * k) + 1).toNatClampNeg), .int (xs (nI (5 * k) + 2).toNatClampNeg), .int (xs (nI (5 * k) + 3).toNatClampNeg)]) (rest := [.long r]) ⟨hx, hb, hml, hown, htl⟩ (c_X6_apart l D (xs (nI (5 * k) + 1).toNatClampNeg) (xs (nI (5 * k) + 2).toNatClampNeg) (xs (nI (5 * k) + 3).toNatClampNeg) H.size hM) (cwV 3 htl (gV mw_25_2 mw_25_3 mw_25_4 mw_1_5 mw_25_5) rfl rfl rfl (by decide +kernel) ⟨Nat.le_of_ble_eq_true rfl, Nat.le_of_ble_eq_true rfl⟩) (lPreM hN hK hP hD hM _) rfl rfl hl.1 rfl (lv_room (Nat.le_of_ble_eq_true rfl)) dL_law_703 ⟨by show 56 + 20 * k + 0 + 0 ≤ 600000; omega, by show 30000 + 10529 * k + 0 + 0 ≤ 7302250; omega⟩) (fun r2 M H locs h6 hP hD hS => ?_)
  have heq := h5.1.trans h6.1.symm
  refine W.lcmp hx hb dL_law_706 ?_
  refine lv_if_eq (tgt := 891) hx hb dL_law_707 (by decide) (fun c0 => ?_) (fun c0 => ?_)
  · refine W.widen (k := 56 + 20 * (k + 1)) (n := 30000 + 10529 * (k + 1)) (by omega) (by omega) ?_
    exact nx _ _ _ _ _ _ _ ⟨hP, hD, hS, h5.2, h6.2⟩
  · exact absurd (by rw [heq]; exact lg_self _) c0
set_option maxHeartbeats 4000000 in
set_option maxRecDepth 100000 in
theorem lc_spread {p : Program} {l : Launch} {e0 : Env} {s : State} {m : MethodId} {below : List Frame} {meth : Method} {c : Code} {b L : Nat} {xs : Nat → Int32} {D : va_G} {cy : Nat → ClassId} {hSP hMo : Nat} {σ : Nat → Nat → Int32} {v e k : Nat} {C M : va_W} {H : Heap} {locs : List Loc} {ls : Array Slot} (X : LX p s m c b L xs D cy) (hL : L ≤ 2560) (hi : 5 * k + 5 ≤ L) (I : LI s D cy hSP hMo σ v e k C M H locs) (hl : lv_has ls 4 [(0, .ref b), (1, .ref hSP), (2, .ref hMo), (3, .int (nI (5 * k)))]) (nx : ∀ σ' v' e' C' M' H' locs', LI s D cy hSP hMo σ' v' e' (k + 1) C' M' H' locs' → W p l e0 room_1 s m #[Value.ref b] below meth c H' locs' (56 + 20 * (k + 1)) (30000 + 10529 * (k + 1)) (lw_Z below #[Value.ref b] s) (F0 m 891 ls [])) : W p l e0 room_1 s m #[Value.ref b] below meth c H locs (56 + 20 * k) (30000 + 10529 * k) (lw_Z below #[Value.ref b] s) (F0 m 712 ls []) := by
  obtain ⟨hx, hb, hml, hown, htl, hX, hbl, hK, hN⟩ := X
  obtain ⟨hP, hD, hS, hC, hM⟩ := I
  have hA : ∀ q : Nat, s.heap.size ≤ q → (fun q : Nat => s.heap.size ≤ q) q := fun _ h => h
  have hbA : ¬ (fun q : Nat => s.heap.size ≤ q) b := Nat.not_le.mpr hbl
  refine lv_aload_n hx hb dL_law_712 rfl (lv_at hl 1 rfl) ?_
  refine lv_aload_n hx hb dL_law_713 rfl (lv_at hl 0 rfl) ?_
  refine lv_iload_n hx hb dL_law_714 rfl (lv_at hl 3 rfl) ?_
  refine lv_iconst (v := 1) hx hb dL_law_715 (by decide) ?_
  refine lv_iadd hx hb dL_law_716 ?_
  refine va_sld hx hb hX hbl hbA hS (inL (j := 1) hL hi (by omega)) dL_law_717 ?_
  refine ldC_l hP hD hS hA (va_runV (As := [.int (xs (nI (5 * k) + 1).toNatClampNeg)]) (rest := []) ⟨hx, hb, hml, hown, htl⟩ (c_X5_spread l D (xs (nI (5 * k) + 1).toNatClampNeg) H.size (by omega) hC) (cwV 1 htl (gV mw_25_10 mw_25_11 mw_25_12 mw_1_2 mw_25_13) rfl rfl rfl (by decide +kernel) ⟨Nat.le_of_ble_eq_true rfl, Nat.le_of_ble_eq_true rfl⟩) (lPreC hN hK hP hD hC _) rfl rfl hl.1 rfl (lv_room (Nat.le_of_ble_eq_true rfl)) dL_law_718 ⟨by show 56 + 20 * k + 0 ≤ 600000; omega, by show 30000 + 10529 * k + 0 ≤ 7302250; omega⟩) (fun r C H locs h5 hP hD hS => ?_)
  refine lv_aload_n hx hb dL_law_721 rfl (lv_at hl 2 rfl) ?_
  refine lv_aload_n hx hb dL_law_722 rfl (lv_at hl 0 rfl) ?_
  refine lv_iload_n hx hb dL_law_723 rfl (lv_at hl 3 rfl) ?_
  refine lv_iconst (v := 1) hx hb dL_law_724 (by decide) ?_
  refine lv_iadd hx hb dL_law_725 ?_
  refine va_sld hx hb hX hbl hbA hS (inL (j := 1) hL hi (by omega)) dL_law_726 ?_
  refine ldM_l hP hD hS hA (va_runV (As := [.int (xs (nI (5 * k) + 1).toNatClampNeg)]) (rest := [.long r]) ⟨hx, hb, hml, hown, htl⟩ (c_X6_spread l D (xs (nI (5 * k) + 1).toNatClampNeg) H.size hM) (cwV 1 htl (gV mw_26_21 mw_26_22 mw_26_23 mw_1_5 mw_27_0) rfl rfl rfl (by decide +kernel) ⟨Nat.le_of_ble_eq_true rfl, Nat.le_of_ble_eq_true rfl⟩) (lPreM hN hK hP hD hM _) rfl rfl hl.1 rfl (lv_room (Nat.le_of_ble_eq_true rfl)) dL_law_727 ⟨by show 56 + 20 * k + 0 + 0 ≤ 600000; omega, by show 30000 + 10529 * k + 0 + 0 ≤ 7302250; omega⟩) (fun r2 M H locs h6 hP hD hS => ?_)
  have heq := h5.1.trans h6.1.symm
  refine W.lcmp hx hb dL_law_730 ?_
  refine lv_if_eq (tgt := 891) hx hb dL_law_731 (by decide) (fun c0 => ?_) (fun c0 => ?_)
  · refine W.widen (k := 56 + 20 * (k + 1)) (n := 30000 + 10529 * (k + 1)) (by omega) (by omega) ?_
    exact nx _ _ _ _ _ _ _ ⟨hP, hD, hS, h5.2, h6.2⟩
  · exact absurd (by rw [heq]; exact lg_self _) c0
set_option maxHeartbeats 4000000 in
set_option maxRecDepth 100000 in
theorem lc_centre {p : Program} {l : Launch} {e0 : Env} {s : State} {m : MethodId} {below : List Frame} {meth : Method} {c : Code} {b L : Nat} {xs : Nat → Int32} {D : va_G} {cy : Nat → ClassId} {hSP hMo : Nat} {σ : Nat → Nat → Int32} {v e k : Nat} {C M : va_W} {H : Heap} {locs : List Loc} {ls : Array Slot} (X : LX p s m c b L xs D cy) (hL : L ≤ 2560) (hi : 5 * k + 5 ≤ L) (I : LI s D cy hSP hMo σ v e k C M H locs) (hl : lv_has ls 4 [(0, .ref b), (1, .ref hSP), (2, .ref hMo), (3, .int (nI (5 * k)))]) (nx : ∀ σ' v' e' C' M' H' locs', LI s D cy hSP hMo σ' v' e' (k + 1) C' M' H' locs' → W p l e0 room_1 s m #[Value.ref b] below meth c H' locs' (56 + 20 * (k + 1)) (30000 + 10529 * (k + 1)) (lw_Z below #[Value.ref b] s) (F0 m 891 ls [])) : W p l e0 room_1 s m #[Value.ref b] below meth c H locs (56 + 20 * k) (30000 + 10529 * k) (lw_Z below #[Value.ref b] s) (F0 m 736 ls []) := by
  obtain ⟨hx, hb, hml, hown, htl, hX, hbl, hK, hN⟩ := X
  obtain ⟨hP, hD, hS, hC, hM⟩ := I
  have hA : ∀ q : Nat, s.heap.size ≤ q → (fun q : Nat => s.heap.size ≤ q) q := fun _ h => h
  have hbA : ¬ (fun q : Nat => s.heap.size ≤ q) b := Nat.not_le.mpr hbl
  refine lv_aload_n hx hb dL_law_736 rfl (lv_at hl 1 rfl) ?_
  refine ldC_i hP hD hS hA (va_runV (As := []) (rest := []) ⟨hx, hb, hml, hown, htl⟩ (c_X5_centre l D H.size (by omega) hC) (cwV 0 htl (gV mw_27_1 mw_27_2 mw_27_3 mw_1_2 mw_27_4) rfl rfl rfl (by decide +kernel) ⟨Nat.le_of_ble_eq_true rfl, Nat.le_of_ble_eq_true rfl⟩) (lPreC hN hK hP hD hC _) rfl rfl hl.1 rfl (lv_room (Nat.le_of_ble_eq_true rfl)) dL_law_737 ⟨by show 56 + 20 * k + 0 ≤ 600000; omega, by show 30000 + 10529 * k + 0 ≤ 7302250; omega⟩) (fun r C H locs h5 hP hD hS => ?_)
  refine lv_aload_n hx hb dL_law_740 rfl (lv_at hl 2 rfl) ?_
  refine ldM_i hP hD hS hA (va_runV (As := []) (rest := [.int r]) ⟨hx, hb, hml, hown, htl⟩ (c_X6_centre l D H.size hM) (cwV 0 htl (gV mw_27_6 mw_27_7 mw_27_8 mw_1_5 mw_27_9) rfl rfl rfl (by decide +kernel) ⟨Nat.le_of_ble_eq_true rfl, Nat.le_of_ble_eq_true rfl⟩) (lPreM hN hK hP hD hM _) rfl rfl hl.1 rfl (lv_room (Nat.le_of_ble_eq_true rfl)) dL_law_741 ⟨by show 56 + 20 * k + 0 + 0 ≤ 600000; omega, by show 30000 + 10529 * k + 0 + 0 ≤ 7302250; omega⟩) (fun r2 M H locs h6 hP hD hS => ?_)
  have heq := h5.1.trans h6.1.symm
  refine lv_icmp_eq (tgt := 891) hx hb dL_law_744 (by decide) (fun c0 => ?_) (fun c0 => ?_)
  · refine W.widen (k := 56 + 20 * (k + 1)) (n := 30000 + 10529 * (k + 1)) (by omega) (by omega) ?_
    exact nx _ _ _ _ _ _ _ ⟨hP, hD, hS, h5.2, h6.2⟩
  · exact absurd heq c0
set_option maxHeartbeats 4000000 in
set_option maxRecDepth 100000 in
theorem lc_without {p : Program} {l : Launch} {e0 : Env} {s : State} {m : MethodId} {below : List Frame} {meth : Method} {c : Code} {b L : Nat} {xs : Nat → Int32} {D : va_G} {cy : Nat → ClassId} {hSP hMo : Nat} {σ : Nat → Nat → Int32} {v e k : Nat} {C M : va_W} {H : Heap} {locs : List Loc} {ls : Array Slot} (X : LX p s m c b L xs D cy) (hL : L ≤ 2560) (hi : 5 * k + 5 ≤ L) (I : LI s D cy hSP hMo σ v e k C M H locs) (hl : lv_has ls 4 [(0, .ref b), (1, .ref hSP), (2, .ref hMo), (3, .int (nI (5 * k)))]) (nx : ∀ σ' v' e' C' M' H' locs', LI s D cy hSP hMo σ' v' e' (k + 1) C' M' H' locs' → W p l e0 room_1 s m #[Value.ref b] below meth c H' locs' (56 + 20 * (k + 1)) (30000 + 10529 * (k + 1)) (lw_Z below #[Value.ref b] s) (F0 m 891 ls [])) : W p l e0 room_1 s m #[Value.ref b] below meth c H locs (56 + 20 * k) (30000 + 10529 * k) (lw_Z below #[Value.ref b] s) (F0 m 749 ls []) := by
  obtain ⟨hx, hb, hml, hown, htl, hX, hbl, hK, hN⟩ := X
  obtain ⟨hP, hD, hS, hC, hM⟩ := I
  have hA : ∀ q : Nat, s.heap.size ≤ q → (fun q : Nat => s.heap.size ≤ q) q := fun _ h => h
  have hbA : ¬ (fun q : Nat => s.heap.size ≤ q) b := Nat.not_le.mpr hbl
  refine lv_aload_n hx hb dL_law_749 rfl (lv_at hl 1 rfl) ?_
  refine lv_aload_n hx hb dL_law_750 rfl (lv_at hl 0 rfl) ?_
  refine lv_iload_n hx hb dL_law_751 rfl (lv_at hl 3 rfl) ?_
  refine lv_iconst (v := 1) hx hb dL_law_752 (by decide) ?_
  refine lv_iadd hx hb dL_law_753 ?_
  refine va_sld hx hb hX hbl hbA hS (inL (j := 1) hL hi (by omega)) dL_law_754 ?_
  refine lv_aload_n hx hb dL_law_755 rfl (lv_at hl 0 rfl) ?_
  refine lv_iload_n hx hb dL_law_756 rfl (lv_at hl 3 rfl) ?_
  refine lv_iconst (v := 2) hx hb dL_law_757 (by decide) ?_
  refine lv_iadd hx hb dL_law_758 ?_
  refine va_sld hx hb hX hbl hbA hS (inL (j := 2) hL hi (by omega)) dL_law_759 ?_
  refine ldC_i hP hD hS hA (va_runV (As := [.int (xs (nI (5 * k) + 1).toNatClampNeg), .int (xs (nI (5 * k) + 2).toNatClampNeg)]) (rest := []) ⟨hx, hb, hml, hown, htl⟩ (c_X5_without l D (xs (nI (5 * k) + 1).toNatClampNeg) (xs (nI (5 * k) + 2).toNatClampNeg) H.size (by omega) hC) (cwV 2 htl (gV mw_27_10 mw_27_11 mw_27_12 mw_1_2 mw_27_13) rfl rfl rfl (by decide +kernel) ⟨Nat.le_of_ble_eq_true rfl, Nat.le_of_ble_eq_true rfl⟩) (lPreC hN hK hP hD hC _) rfl rfl hl.1 rfl (lv_room (Nat.le_of_ble_eq_true rfl)) dL_law_760 ⟨by show 56 + 20 * k + 0 ≤ 600000; omega, by show 30000 + 10529 * k + 0 ≤ 7302250; omega⟩) (fun r C H locs h5 hP hD hS => ?_)
  refine lv_aload_n hx hb dL_law_763 rfl (lv_at hl 2 rfl) ?_
  refine lv_aload_n hx hb dL_law_764 rfl (lv_at hl 0 rfl) ?_
  refine lv_iload_n hx hb dL_law_765 rfl (lv_at hl 3 rfl) ?_
  refine lv_iconst (v := 1) hx hb dL_law_766 (by decide) ?_
  refine lv_iadd hx hb dL_law_767 ?_
  refine va_sld hx hb hX hbl hbA hS (inL (j := 1) hL hi (by omega)) dL_law_768 ?_
  refine lv_aload_n hx hb dL_law_769 rfl (lv_at hl 0 rfl) ?_
  refine lv_iload_n hx hb dL_law_770 rfl (lv_at hl 3 rfl) ?_
  refine lv_iconst (v := 2) hx hb dL_law_771 (by decide) ?_
  refine lv_iadd hx hb dL_law_772 ?_
  refine va_sld hx hb hX hbl hbA hS (inL (j := 2) hL hi (by omega)) dL_law_773 ?_
  refine ldM_i hP hD hS hA (va_runV (As := [.int (xs (nI (5 * k) + 1).toNatClampNeg), .int (xs (nI (5 * k) + 2).toNatClampNeg)]) (rest := [.int r]) ⟨hx, hb, hml, hown, htl⟩ (c_X6_without l D (xs (nI (5 * k) + 1).toNatClampNeg) (xs (nI (5 * k) + 2).toNatClampNeg) H.size hM) (cwV 2 htl (gV mw_28_6 mw_28_7 mw_28_8 mw_1_5 mw_28_9) rfl rfl rfl (by decide +kernel) ⟨Nat.le_of_ble_eq_true rfl, Nat.le_of_ble_eq_true rfl⟩) (lPreM hN hK hP hD hM _) rfl rfl hl.1 rfl (lv_room (Nat.le_of_ble_eq_true rfl)) dL_law_774 ⟨by show 56 + 20 * k + 0 + 0 ≤ 600000; omega, by show 30000 + 10529 * k + 0 + 0 ≤ 7302250; omega⟩) (fun r2 M H locs h6 hP hD hS => ?_)
  have heq := h5.1.trans h6.1.symm
  refine lv_icmp_eq (tgt := 891) hx hb dL_law_777 (by decide) (fun c0 => ?_) (fun c0 => ?_)
  · refine W.widen (k := 56 + 20 * (k + 1)) (n := 30000 + 10529 * (k + 1)) (by omega) (by omega) ?_
    exact nx _ _ _ _ _ _ _ ⟨hP, hD, hS, h5.2, h6.2⟩
  · exact absurd heq c0
set_option maxHeartbeats 4000000 in
set_option maxRecDepth 100000 in
theorem lc_turned {p : Program} {l : Launch} {e0 : Env} {s : State} {m : MethodId} {below : List Frame} {meth : Method} {c : Code} {b L : Nat} {xs : Nat → Int32} {D : va_G} {cy : Nat → ClassId} {hSP hMo : Nat} {σ : Nat → Nat → Int32} {v e k : Nat} {C M : va_W} {H : Heap} {locs : List Loc} {ls : Array Slot} (X : LX p s m c b L xs D cy) (hL : L ≤ 2560) (hi : 5 * k + 5 ≤ L) (I : LI s D cy hSP hMo σ v e k C M H locs) (hl : lv_has ls 4 [(0, .ref b), (1, .ref hSP), (2, .ref hMo), (3, .int (nI (5 * k)))]) (nx : ∀ σ' v' e' C' M' H' locs', LI s D cy hSP hMo σ' v' e' (k + 1) C' M' H' locs' → W p l e0 room_1 s m #[Value.ref b] below meth c H' locs' (56 + 20 * (k + 1)) (30000 + 10529 * (k + 1)) (lw_Z below #[Value.ref b] s) (F0 m 891 ls [])) : W p l e0 room_1 s m #[Value.ref b] below meth c H locs (56 + 20 * k) (30000 + 10529 * k) (lw_Z below #[Value.ref b] s) (F0 m 782 ls []) := by
  obtain ⟨hx, hb, hml, hown, htl, hX, hbl, hK, hN⟩ := X
  obtain ⟨hP, hD, hS, hC, hM⟩ := I
  have hA : ∀ q : Nat, s.heap.size ≤ q → (fun q : Nat => s.heap.size ≤ q) q := fun _ h => h
  have hbA : ¬ (fun q : Nat => s.heap.size ≤ q) b := Nat.not_le.mpr hbl
  refine lv_aload_n hx hb dL_law_782 rfl (lv_at hl 1 rfl) ?_
  refine lv_aload_n hx hb dL_law_783 rfl (lv_at hl 0 rfl) ?_
  refine lv_iload_n hx hb dL_law_784 rfl (lv_at hl 3 rfl) ?_
  refine lv_iconst (v := 1) hx hb dL_law_785 (by decide) ?_
  refine lv_iadd hx hb dL_law_786 ?_
  refine va_sld hx hb hX hbl hbA hS (inL (j := 1) hL hi (by omega)) dL_law_787 ?_
  refine lv_aload_n hx hb dL_law_788 rfl (lv_at hl 0 rfl) ?_
  refine lv_iload_n hx hb dL_law_789 rfl (lv_at hl 3 rfl) ?_
  refine lv_iconst (v := 2) hx hb dL_law_790 (by decide) ?_
  refine lv_iadd hx hb dL_law_791 ?_
  refine va_sld hx hb hX hbl hbA hS (inL (j := 2) hL hi (by omega)) dL_law_792 ?_
  refine ldC_i hP hD hS hA (va_runV (As := [.int (xs (nI (5 * k) + 1).toNatClampNeg), .int (xs (nI (5 * k) + 2).toNatClampNeg)]) (rest := []) ⟨hx, hb, hml, hown, htl⟩ (c_X5_turned l D (xs (nI (5 * k) + 1).toNatClampNeg) (xs (nI (5 * k) + 2).toNatClampNeg) H.size (by omega) hC) (cwV 2 htl (gV mw_28_14 mw_28_15 mw_28_16 mw_1_2 mw_28_17) rfl rfl rfl (by decide +kernel) ⟨Nat.le_of_ble_eq_true rfl, Nat.le_of_ble_eq_true rfl⟩) (lPreC hN hK hP hD hC _) rfl rfl hl.1 rfl (lv_room (Nat.le_of_ble_eq_true rfl)) dL_law_793 ⟨by show 56 + 20 * k + 0 ≤ 600000; omega, by show 30000 + 10529 * k + 0 ≤ 7302250; omega⟩) (fun r C H locs h5 hP hD hS => ?_)
  refine lv_aload_n hx hb dL_law_796 rfl (lv_at hl 2 rfl) ?_
  refine lv_aload_n hx hb dL_law_797 rfl (lv_at hl 0 rfl) ?_
  refine lv_iload_n hx hb dL_law_798 rfl (lv_at hl 3 rfl) ?_
  refine lv_iconst (v := 1) hx hb dL_law_799 (by decide) ?_
  refine lv_iadd hx hb dL_law_800 ?_
  refine va_sld hx hb hX hbl hbA hS (inL (j := 1) hL hi (by omega)) dL_law_801 ?_
  refine lv_aload_n hx hb dL_law_802 rfl (lv_at hl 0 rfl) ?_
  refine lv_iload_n hx hb dL_law_803 rfl (lv_at hl 3 rfl) ?_
  refine lv_iconst (v := 2) hx hb dL_law_804 (by decide) ?_
  refine lv_iadd hx hb dL_law_805 ?_
  refine va_sld hx hb hX hbl hbA hS (inL (j := 2) hL hi (by omega)) dL_law_806 ?_
  refine ldM_i hP hD hS hA (va_runV (As := [.int (xs (nI (5 * k) + 1).toNatClampNeg), .int (xs (nI (5 * k) + 2).toNatClampNeg)]) (rest := [.int r]) ⟨hx, hb, hml, hown, htl⟩ (c_X6_turned l D (xs (nI (5 * k) + 1).toNatClampNeg) (xs (nI (5 * k) + 2).toNatClampNeg) H.size hM) (cwV 2 htl (gV mw_28_18 mw_28_19 mw_28_20 mw_1_5 mw_28_21) rfl rfl rfl (by decide +kernel) ⟨Nat.le_of_ble_eq_true rfl, Nat.le_of_ble_eq_true rfl⟩) (lPreM hN hK hP hD hM _) rfl rfl hl.1 rfl (lv_room (Nat.le_of_ble_eq_true rfl)) dL_law_807 ⟨by show 56 + 20 * k + 0 + 0 ≤ 600000; omega, by show 30000 + 10529 * k + 0 + 0 ≤ 7302250; omega⟩) (fun r2 M H locs h6 hP hD hS => ?_)
  have heq := h5.1.trans h6.1.symm
  refine lv_icmp_eq (tgt := 891) hx hb dL_law_810 (by decide) (fun c0 => ?_) (fun c0 => ?_)
  · refine W.widen (k := 56 + 20 * (k + 1)) (n := 30000 + 10529 * (k + 1)) (by omega) (by omega) ?_
    exact nx _ _ _ _ _ _ _ ⟨hP, hD, hS, h5.2, h6.2⟩
  · exact absurd heq c0
set_option maxHeartbeats 4000000 in
set_option maxRecDepth 100000 in
theorem lc_foretold {p : Program} {l : Launch} {e0 : Env} {s : State} {m : MethodId} {below : List Frame} {meth : Method} {c : Code} {b L : Nat} {xs : Nat → Int32} {D : va_G} {cy : Nat → ClassId} {hSP hMo : Nat} {σ : Nat → Nat → Int32} {v e k : Nat} {C M : va_W} {H : Heap} {locs : List Loc} {ls : Array Slot} (X : LX p s m c b L xs D cy) (hL : L ≤ 2560) (hi : 5 * k + 5 ≤ L) (I : LI s D cy hSP hMo σ v e k C M H locs) (hl : lv_has ls 4 [(0, .ref b), (1, .ref hSP), (2, .ref hMo), (3, .int (nI (5 * k)))]) (nx : ∀ σ' v' e' C' M' H' locs', LI s D cy hSP hMo σ' v' e' (k + 1) C' M' H' locs' → W p l e0 room_1 s m #[Value.ref b] below meth c H' locs' (56 + 20 * (k + 1)) (30000 + 10529 * (k + 1)) (lw_Z below #[Value.ref b] s) (F0 m 891 ls [])) : W p l e0 room_1 s m #[Value.ref b] below meth c H locs (56 + 20 * k) (30000 + 10529 * k) (lw_Z below #[Value.ref b] s) (F0 m 815 ls []) := by
  obtain ⟨hx, hb, hml, hown, htl, hX, hbl, hK, hN⟩ := X
  obtain ⟨hP, hD, hS, hC, hM⟩ := I
  have hA : ∀ q : Nat, s.heap.size ≤ q → (fun q : Nat => s.heap.size ≤ q) q := fun _ h => h
  have hbA : ¬ (fun q : Nat => s.heap.size ≤ q) b := Nat.not_le.mpr hbl
  refine lv_aload_n hx hb dL_law_815 rfl (lv_at hl 1 rfl) ?_
  refine lv_aload_n hx hb dL_law_816 rfl (lv_at hl 0 rfl) ?_
  refine lv_iload_n hx hb dL_law_817 rfl (lv_at hl 3 rfl) ?_
  refine lv_iconst (v := 1) hx hb dL_law_818 (by decide) ?_
  refine lv_iadd hx hb dL_law_819 ?_
  refine va_sld hx hb hX hbl hbA hS (inL (j := 1) hL hi (by omega)) dL_law_820 ?_
  refine lv_aload_n hx hb dL_law_821 rfl (lv_at hl 0 rfl) ?_
  refine lv_iload_n hx hb dL_law_822 rfl (lv_at hl 3 rfl) ?_
  refine lv_iconst (v := 2) hx hb dL_law_823 (by decide) ?_
  refine lv_iadd hx hb dL_law_824 ?_
  refine va_sld hx hb hX hbl hbA hS (inL (j := 2) hL hi (by omega)) dL_law_825 ?_
  refine lv_aload_n hx hb dL_law_826 rfl (lv_at hl 0 rfl) ?_
  refine lv_iload_n hx hb dL_law_827 rfl (lv_at hl 3 rfl) ?_
  refine lv_iconst (v := 3) hx hb dL_law_828 (by decide) ?_
  refine lv_iadd hx hb dL_law_829 ?_
  refine va_sld hx hb hX hbl hbA hS (inL (j := 3) hL hi (by omega)) dL_law_830 ?_
  refine lv_aload_n hx hb dL_law_831 rfl (lv_at hl 0 rfl) ?_
  refine lv_iload_n hx hb dL_law_832 rfl (lv_at hl 3 rfl) ?_
  refine lv_iconst (v := 4) hx hb dL_law_833 (by decide) ?_
  refine lv_iadd hx hb dL_law_834 ?_
  refine va_sld hx hb hX hbl hbA hS (inL (j := 4) hL hi (by omega)) dL_law_835 ?_
  refine ldC_i hP hD hS hA (va_runV (As := [.int (xs (nI (5 * k) + 1).toNatClampNeg), .int (xs (nI (5 * k) + 2).toNatClampNeg), .int (xs (nI (5 * k) + 3).toNatClampNeg), .int (xs (nI (5 * k) + 4).toNatClampNeg)]) (rest := []) ⟨hx, hb, hml, hown, htl⟩ (c_X5_foretold l D (xs (nI (5 * k) + 1).toNatClampNeg) (xs (nI (5 * k) + 2).toNatClampNeg) (xs (nI (5 * k) + 3).toNatClampNeg) (xs (nI (5 * k) + 4).toNatClampNeg) H.size (by omega) hC) (cwV 4 htl (gV mw_28_22 mw_28_23 mw_29_0 mw_1_2 mw_29_1) rfl rfl rfl (by decide +kernel) ⟨Nat.le_of_ble_eq_true rfl, Nat.le_of_ble_eq_true rfl⟩) (lPreC hN hK hP hD hC _) rfl rfl hl.1 rfl (lv_room (Nat.le_of_ble_eq_true rfl)) dL_law_836 ⟨by show 56 + 20 * k + 0 ≤ 600000; omega, by show 30000 + 10529 * k + 0 ≤ 7302250; omega⟩) (fun r C H locs h5 hP hD hS => ?_)
  refine lv_aload_n hx hb dL_law_839 rfl (lv_at hl 2 rfl) ?_
  refine lv_aload_n hx hb dL_law_840 rfl (lv_at hl 0 rfl) ?_
  refine lv_iload_n hx hb dL_law_841 rfl (lv_at hl 3 rfl) ?_
  refine lv_iconst (v := 1) hx hb dL_law_842 (by decide) ?_
  refine lv_iadd hx hb dL_law_843 ?_
  refine va_sld hx hb hX hbl hbA hS (inL (j := 1) hL hi (by omega)) dL_law_844 ?_
  refine lv_aload_n hx hb dL_law_845 rfl (lv_at hl 0 rfl) ?_
  refine lv_iload_n hx hb dL_law_846 rfl (lv_at hl 3 rfl) ?_
  refine lv_iconst (v := 2) hx hb dL_law_847 (by decide) ?_
  refine lv_iadd hx hb dL_law_848 ?_
  refine va_sld hx hb hX hbl hbA hS (inL (j := 2) hL hi (by omega)) dL_law_849 ?_
  refine lv_aload_n hx hb dL_law_850 rfl (lv_at hl 0 rfl) ?_
  refine lv_iload_n hx hb dL_law_851 rfl (lv_at hl 3 rfl) ?_
  refine lv_iconst (v := 3) hx hb dL_law_852 (by decide) ?_
  refine lv_iadd hx hb dL_law_853 ?_
  refine va_sld hx hb hX hbl hbA hS (inL (j := 3) hL hi (by omega)) dL_law_854 ?_
  refine lv_aload_n hx hb dL_law_855 rfl (lv_at hl 0 rfl) ?_
  refine lv_iload_n hx hb dL_law_856 rfl (lv_at hl 3 rfl) ?_
  refine lv_iconst (v := 4) hx hb dL_law_857 (by decide) ?_
  refine lv_iadd hx hb dL_law_858 ?_
  refine va_sld hx hb hX hbl hbA hS (inL (j := 4) hL hi (by omega)) dL_law_859 ?_
  refine ldM_i hP hD hS hA (va_runV (As := [.int (xs (nI (5 * k) + 1).toNatClampNeg), .int (xs (nI (5 * k) + 2).toNatClampNeg), .int (xs (nI (5 * k) + 3).toNatClampNeg), .int (xs (nI (5 * k) + 4).toNatClampNeg)]) (rest := [.int r]) ⟨hx, hb, hml, hown, htl⟩ (c_X6_foretold l D (xs (nI (5 * k) + 1).toNatClampNeg) (xs (nI (5 * k) + 2).toNatClampNeg) (xs (nI (5 * k) + 3).toNatClampNeg) (xs (nI (5 * k) + 4).toNatClampNeg) H.size hM) (cwV 4 htl (gV mw_29_2 mw_29_3 mw_29_4 mw_1_5 mw_29_5) rfl rfl rfl (by decide +kernel) ⟨Nat.le_of_ble_eq_true rfl, Nat.le_of_ble_eq_true rfl⟩) (lPreM hN hK hP hD hM _) rfl rfl hl.1 rfl (lv_room (Nat.le_of_ble_eq_true rfl)) dL_law_860 ⟨by show 56 + 20 * k + 0 + 0 ≤ 600000; omega, by show 30000 + 10529 * k + 0 + 0 ≤ 7302250; omega⟩) (fun r2 M H locs h6 hP hD hS => ?_)
  have heq := h5.1.trans h6.1.symm
  refine lv_icmp_eq (tgt := 891) hx hb dL_law_863 (by decide) (fun c0 => ?_) (fun c0 => ?_)
  · refine W.widen (k := 56 + 20 * (k + 1)) (n := 30000 + 10529 * (k + 1)) (by omega) (by omega) ?_
    exact nx _ _ _ _ _ _ _ ⟨hP, hD, hS, h5.2, h6.2⟩
  · exact absurd heq c0
set_option maxHeartbeats 4000000 in
set_option maxRecDepth 100000 in
theorem lc_many {p : Program} {l : Launch} {e0 : Env} {s : State} {m : MethodId} {below : List Frame} {meth : Method} {c : Code} {b L : Nat} {xs : Nat → Int32} {D : va_G} {cy : Nat → ClassId} {hSP hMo : Nat} {σ : Nat → Nat → Int32} {v e k : Nat} {C M : va_W} {H : Heap} {locs : List Loc} {ls : Array Slot} (X : LX p s m c b L xs D cy) (hL : L ≤ 2560) (hi : 5 * k + 5 ≤ L) (I : LI s D cy hSP hMo σ v e k C M H locs) (hl : lv_has ls 4 [(0, .ref b), (1, .ref hSP), (2, .ref hMo), (3, .int (nI (5 * k)))]) (nx : ∀ σ' v' e' C' M' H' locs', LI s D cy hSP hMo σ' v' e' (k + 1) C' M' H' locs' → W p l e0 room_1 s m #[Value.ref b] below meth c H' locs' (56 + 20 * (k + 1)) (30000 + 10529 * (k + 1)) (lw_Z below #[Value.ref b] s) (F0 m 891 ls [])) : W p l e0 room_1 s m #[Value.ref b] below meth c H locs (56 + 20 * k) (30000 + 10529 * k) (lw_Z below #[Value.ref b] s) (F0 m 868 ls []) := by
  obtain ⟨hx, hb, hml, hown, htl, hX, hbl, hK, hN⟩ := X
  obtain ⟨hP, hD, hS, hC, hM⟩ := I
  have hA : ∀ q : Nat, s.heap.size ≤ q → (fun q : Nat => s.heap.size ≤ q) q := fun _ h => h
  have hbA : ¬ (fun q : Nat => s.heap.size ≤ q) b := Nat.not_le.mpr hbl
  refine lv_aload_n hx hb dL_law_868 rfl (lv_at hl 1 rfl) ?_
  refine lv_aload_n hx hb dL_law_869 rfl (lv_at hl 0 rfl) ?_
  refine lv_iload_n hx hb dL_law_870 rfl (lv_at hl 3 rfl) ?_
  refine lv_iconst (v := 1) hx hb dL_law_871 (by decide) ?_
  refine lv_iadd hx hb dL_law_872 ?_
  refine va_sld hx hb hX hbl hbA hS (inL (j := 1) hL hi (by omega)) dL_law_873 ?_
  refine ldC_i hP hD hS hA (va_runV (As := [.int (xs (nI (5 * k) + 1).toNatClampNeg)]) (rest := []) ⟨hx, hb, hml, hown, htl⟩ (c_X5_many l D (xs (nI (5 * k) + 1).toNatClampNeg) H.size (by omega) hC) (cwV 1 htl (gV mw_29_6 mw_29_7 mw_29_8 mw_1_2 mw_29_9) rfl rfl rfl (by decide +kernel) ⟨Nat.le_of_ble_eq_true rfl, Nat.le_of_ble_eq_true rfl⟩) (lPreC hN hK hP hD hC _) rfl rfl hl.1 rfl (lv_room (Nat.le_of_ble_eq_true rfl)) dL_law_874 ⟨by show 56 + 20 * k + 0 ≤ 600000; omega, by show 30000 + 10529 * k + 0 ≤ 7302250; omega⟩) (fun r C H locs h5 hP hD hS => ?_)
  refine lv_aload_n hx hb dL_law_877 rfl (lv_at hl 2 rfl) ?_
  refine lv_aload_n hx hb dL_law_878 rfl (lv_at hl 0 rfl) ?_
  refine lv_iload_n hx hb dL_law_879 rfl (lv_at hl 3 rfl) ?_
  refine lv_iconst (v := 1) hx hb dL_law_880 (by decide) ?_
  refine lv_iadd hx hb dL_law_881 ?_
  refine va_sld hx hb hX hbl hbA hS (inL (j := 1) hL hi (by omega)) dL_law_882 ?_
  refine ldM_i hP hD hS hA (va_runV (As := [.int (xs (nI (5 * k) + 1).toNatClampNeg)]) (rest := [.int r]) ⟨hx, hb, hml, hown, htl⟩ (c_X6_many l D (xs (nI (5 * k) + 1).toNatClampNeg) H.size hM) (cwV 1 htl (gV mw_29_16 mw_29_17 mw_29_18 mw_1_5 mw_29_19) rfl rfl rfl (by decide +kernel) ⟨Nat.le_of_ble_eq_true rfl, Nat.le_of_ble_eq_true rfl⟩) (lPreM hN hK hP hD hM _) rfl rfl hl.1 rfl (lv_room (Nat.le_of_ble_eq_true rfl)) dL_law_883 ⟨by show 56 + 20 * k + 0 + 0 ≤ 600000; omega, by show 30000 + 10529 * k + 0 + 0 ≤ 7302250; omega⟩) (fun r2 M H locs h6 hP hD hS => ?_)
  have heq := h5.1.trans h6.1.symm
  refine lv_icmp_eq (tgt := 891) hx hb dL_law_886 (by decide) (fun c0 => ?_) (fun c0 => ?_)
  · refine W.widen (k := 56 + 20 * (k + 1)) (n := 30000 + 10529 * (k + 1)) (by omega) (by omega) ?_
    exact nx _ _ _ _ _ _ _ ⟨hP, hD, hS, h5.2, h6.2⟩
  · exact absurd heq c0
