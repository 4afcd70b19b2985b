set_option maxHeartbeats 4000000 in
set_option maxRecDepth 100000 in
theorem k_X3_addStation (l : Launch) (D : va_G) (cy : Nat → ClassId) (hRa hRa_misfits hRa_nodals hRa_order hRa_places hRa_counted hRa_begins hPl hBu hPl_lesser hPl_greater hPl_axisOf hPl_axisXs hPl_axisYs hPl_axisZs hPl_axisSquares hPl_poleSigns hPo hPo_xs hPo_ys hPo_zs hPo_countUpTo hSt hSt_there hSt_xs hSt_ys hSt_zs hSt_signs hSt_weights ns nn np nq : Nat) (Ra_misfits : Nat → Int32) (Ra_nodals : Nat → Int32) (Ra_order : Nat → Int32) (Ra_places : Nat → Int32) (Ra_keptCount : Int32) (Ra_least : Int32) (Ra_version : Int32) (Ra_counted : Nat → Int32) (Ra_begins : Nat → Int32) (Pl_poleCount : Int32) (Pl_pairCount : Int32) (Pl_lesser : Nat → Int32) (Pl_greater : Nat → Int32) (Pl_axisOf : Nat → Int32) (Pl_axisXs : Nat → Int32) (Pl_axisYs : Nat → Int32) (Pl_axisZs : Nat → Int32) (Pl_axisSquares : Nat → Int32) (Pl_axisCount : Int32) (Pl_poleSigns : Nat → Int32) (Po_xs : Nat → Int32) (Po_ys : Nat → Int32) (Po_zs : Nat → Int32) (Po_countUpTo : Nat → Int32) (Po_count : Int32) (St_there : Nat → Int32) (St_xs : Nat → Int32) (St_ys : Nat → Int32) (St_zs : Nat → Int32) (St_signs : Nat → Int32) (St_weights : Nat → Int32) (p1 : Int32) (sz : Nat) (Q : (Nat → Int32) → (Nat → Int32) → (Nat → Int32) → Prop) (hw : wp_X3_addStation p1 ns nn np nq Ra_misfits Ra_nodals Pl_poleCount Pl_lesser Pl_greater Pl_poleSigns Po_xs Po_ys Po_zs St_xs St_ys St_zs St_signs St_weights Q) : Met l yX3_addStation (wA yX3_addStation cX3_addStation 7 none) { frames := 2, cells := 0, slots := 0, locals := 48 } (kPc [.ref hRa, .ref hSt, .int p1] D cy (List.flatten [wRa cy hRa hRa_misfits hRa_nodals hRa_order hRa_places hRa_counted hRa_begins hPl hBu ns nn Ra_misfits Ra_nodals Ra_order Ra_places Ra_keptCount Ra_least Ra_version Ra_counted Ra_begins, wPl cy hPl hPl_lesser hPl_greater hPl_axisOf hPl_axisXs hPl_axisYs hPl_axisZs hPl_axisSquares hPl_poleSigns hPo np nq Pl_poleCount Pl_pairCount Pl_lesser Pl_greater Pl_axisOf Pl_axisXs Pl_axisYs Pl_axisZs Pl_axisSquares Pl_axisCount Pl_poleSigns, wPo cy hPo hPo_xs hPo_ys hPo_zs hPo_countUpTo Po_xs Po_ys Po_zs Po_countUpTo Po_count, wSt cy hSt hSt_there hSt_xs hSt_ys hSt_zs hSt_signs hSt_weights St_there St_xs St_ys St_zs St_signs St_weights]) sz) (va_Qv (fun (u : (Nat → Int32) × (Nat → Int32) × (Nat → Int32)) => Q u.1 u.2.1 u.2.2) (fun u t => kB D cy (va_A (List.flatten [wRa cy hRa hRa_misfits hRa_nodals hRa_order hRa_places hRa_counted hRa_begins hPl hBu ns nn Ra_misfits Ra_nodals Ra_order Ra_places Ra_keptCount Ra_least Ra_version Ra_counted Ra_begins, wPl cy hPl hPl_lesser hPl_greater hPl_axisOf hPl_axisXs hPl_axisYs hPl_axisZs hPl_axisSquares hPl_poleSigns hPo np nq Pl_poleCount Pl_pairCount Pl_lesser Pl_greater Pl_axisOf Pl_axisXs Pl_axisYs Pl_axisZs Pl_axisSquares Pl_axisCount Pl_poleSigns, wPo cy hPo hPo_xs hPo_ys hPo_zs hPo_countUpTo Po_xs Po_ys Po_zs Po_countUpTo Po_count, wSt cy hSt hSt_there hSt_xs hSt_ys hSt_zs hSt_signs hSt_weights St_there St_xs St_ys St_zs St_signs St_weights]) sz) (List.flatten [wRa cy hRa hRa_misfits hRa_nodals hRa_order hRa_places hRa_counted hRa_begins hPl hBu ns nn u.1 u.2.1 Ra_order Ra_places Ra_keptCount Ra_least Ra_version Ra_counted Ra_begins, wPl cy hPl hPl_lesser hPl_greater hPl_axisOf hPl_axisXs hPl_axisYs hPl_axisZs hPl_axisSquares hPl_poleSigns hPo np nq Pl_poleCount Pl_pairCount Pl_lesser Pl_greater Pl_axisOf Pl_axisXs Pl_axisYs Pl_axisZs Pl_axisSquares Pl_axisCount u.2.2, wPo cy hPo hPo_xs hPo_ys hPo_zs hPo_countUpTo Po_xs Po_ys Po_zs Po_countUpTo Po_count, wSt cy hSt hSt_there hSt_xs hSt_ys hSt_zs hSt_signs hSt_weights St_there St_xs St_ys St_zs St_signs St_weights]) t) (va_A (List.flatten [wRa cy hRa hRa_misfits hRa_nodals hRa_order hRa_places hRa_counted hRa_begins hPl hBu ns nn Ra_misfits Ra_nodals Ra_order Ra_places Ra_keptCount Ra_least Ra_version Ra_counted Ra_begins, wPl cy hPl hPl_lesser hPl_greater hPl_axisOf hPl_axisXs hPl_axisYs hPl_axisZs hPl_axisSquares hPl_poleSigns hPo np nq Pl_poleCount Pl_pairCount Pl_lesser Pl_greater Pl_axisOf Pl_axisXs Pl_axisYs Pl_axisZs Pl_axisSquares Pl_axisCount Pl_poleSigns, wPo cy hPo hPo_xs hPo_ys hPo_zs hPo_countUpTo Po_xs Po_ys Po_zs Po_countUpTo Po_count, wSt cy hSt hSt_there hSt_xs hSt_ys hSt_zs hSt_signs hSt_weights St_there St_xs St_ys St_zs St_signs St_weights]) sz)) 0 0 (va_A (List.flatten [wRa cy hRa hRa_misfits hRa_nodals hRa_order hRa_places hRa_counted hRa_begins hPl hBu ns nn Ra_misfits Ra_nodals Ra_order Ra_places Ra_keptCount Ra_least Ra_version Ra_counted Ra_begins, wPl cy hPl hPl_lesser hPl_greater hPl_axisOf hPl_axisXs hPl_axisYs hPl_axisZs hPl_axisSquares hPl_poleSigns hPo np nq Pl_poleCount Pl_pairCount Pl_lesser Pl_greater Pl_axisOf Pl_axisXs Pl_axisYs Pl_axisZs Pl_axisSquares Pl_axisCount Pl_poleSigns, wPo cy hPo hPo_xs hPo_ys hPo_zs hPo_countUpTo Po_xs Po_ys Po_zs Po_countUpTo Po_count, wSt cy hSt hSt_there hSt_xs hSt_ys hSt_zs hSt_signs hSt_weights St_there St_xs St_ys St_zs St_signs St_weights]) sz) := by
  refine Met.ofW (cc := cX3_addStation) (maxL := 7) (ret := none) (by decide) rfl ?_
  intro p e s m args below meth c s₁ B hml hv
  obtain ⟨rfl, hsz, hN, hP, hK, hD0⟩ := hv
  have hx := B.exec
  have hb := B.bytes
  have hr := B.returns
  have hts0 := atoms_spec (ws := wA yX3_addStation cX3_addStation 7 none) B.pre
  have hts := fun w (h : w ∈ wsL_law) => hts0 w (List.mem_cons_of_mem _ h)
  have hown : s.vm.findClass RX3 = some m.cls := findClass_of_methodNamed B.named
  have hlocks := B.notSynchronized
  subst hsz
  have hD := hD0.self (sz := s.heap.size)
  generalize hAe : va_A (List.flatten [wRa cy hRa hRa_misfits hRa_nodals hRa_order hRa_places hRa_counted hRa_begins hPl hBu ns nn Ra_misfits Ra_nodals Ra_order Ra_places Ra_keptCount Ra_least Ra_version Ra_counted Ra_begins, wPl cy hPl hPl_lesser hPl_greater hPl_axisOf hPl_axisXs hPl_axisYs hPl_axisZs hPl_axisSquares hPl_poleSigns hPo np nq Pl_poleCount Pl_pairCount Pl_lesser Pl_greater Pl_axisOf Pl_axisXs Pl_axisYs Pl_axisZs Pl_axisSquares Pl_axisCount Pl_poleSigns, wPo cy hPo hPo_xs hPo_ys hPo_zs hPo_countUpTo Po_xs Po_ys Po_zs Po_countUpTo Po_count, wSt cy hSt hSt_there hSt_xs hSt_ys hSt_zs hSt_signs hSt_weights St_there St_xs St_ys St_zs St_signs St_weights]) s.heap.size = A at hD ⊢
  have hA : ∀ q : Nat, s.heap.size ≤ q → A q := fun q h => by rw [← hAe]; exact Or.inr h
  have hS : va_S A s.heap s.heap [] := va_S.rf
  have hP : va_P D vwCl (List.flatten [wRa cy hRa hRa_misfits hRa_nodals hRa_order hRa_places hRa_counted hRa_begins hPl hBu ns nn Ra_misfits Ra_nodals Ra_order Ra_places Ra_keptCount Ra_least Ra_version Ra_counted Ra_begins, wPl cy hPl hPl_lesser hPl_greater hPl_axisOf hPl_axisXs hPl_axisYs hPl_axisZs hPl_axisSquares hPl_poleSigns hPo np nq Pl_poleCount Pl_pairCount Pl_lesser Pl_greater Pl_axisOf Pl_axisXs Pl_axisYs Pl_axisZs Pl_axisSquares Pl_axisCount Pl_poleSigns, wPo cy hPo hPo_xs hPo_ys hPo_zs hPo_countUpTo Po_xs Po_ys Po_zs Po_countUpTo Po_count, wSt cy hSt hSt_there hSt_xs hSt_ys hSt_zs hSt_signs hSt_weights St_there St_xs St_ys St_zs St_signs St_weights]) s.heap := hP
  have hl := lv_entry ([.ref hRa, .ref hSt, .int p1]) (n := 7) (Nat.le_of_ble_eq_true rfl)
  rw [lg_entry_eq]
  generalize (lg_sl ([.ref hRa, .ref hSt, .int p1]) ++ List.replicate (7 - (lg_sl ([.ref hRa, .ref hSt, .int p1])).length) Slot.unset).toArray = ls at hl ⊢
  have hl : lv_has ls 7 [(0, .ref hRa), (1, .ref hSt), (2, .int p1)] := hl
  unfold wp_X3_addStation at hw
  refine lv_aload_n hx hb dX3_addStation_0 rfl (lv_at hl 0 rfl) ?_
  refine va_get (D := D) (ci := 3) (v := .ref hPl) (C := RX3) (T := TX3) (N := 11) hx hb hts inlX3 hown hK hP 0 rfl rfl 0 (by decide) (hts (.fieldLink RX3 22 "SquarePlanes$Ranking" "planes" "LSquarePlanes$Planes;") mw_6_2) (fun _ h9 => h9) rfl dX3_addStation_1 ?_
  refine lv_aload_n hx hb dX3_addStation_4 rfl (lv_at hl 1 rfl) ?_
  refine va_get (D := D) (ci := 4) (v := .ref hSt_xs) (C := RX4) (T := TX4) (N := 6) hx hb hts inlX4 hown hK hP 21 rfl rfl 1 (by decide) (hts (.fieldLink RX3 88 "SquarePlanes$Stations" "xs" "[I") mw_14_13) (fun _ h9 => h9) rfl dX3_addStation_5 ?_
  refine lv_iload_n hx hb dX3_addStation_8 rfl (lv_at hl 2 rfl) ?_
  refine va_iald hx hb hK hP 23 0 rfl rfl hw.1 dX3_addStation_9 ?_
  have hw := hw.2
  refine lv_aload_n hx hb dX3_addStation_10 rfl (lv_at hl 1 rfl) ?_
  refine va_get (D := D) (ci := 4) (v := .ref hSt_ys) (C := RX4) (T := TX4) (N := 6) hx hb hts inlX4 hown hK hP 21 rfl rfl 2 (by decide) (hts (.fieldLink RX3 91 "SquarePlanes$Stations" "ys" "[I") mw_14_14) (fun _ h9 => h9) rfl dX3_addStation_11 ?_
  refine lv_iload_n hx hb dX3_addStation_14 rfl (lv_at hl 2 rfl) ?_
  refine va_iald hx hb hK hP 24 0 rfl rfl hw.1 dX3_addStation_15 ?_
  have hw := hw.2
  refine lv_aload_n hx hb dX3_addStation_16 rfl (lv_at hl 1 rfl) ?_
  refine va_get (D := D) (ci := 4) (v := .ref hSt_zs) (C := RX4) (T := TX4) (N := 6) hx hb hts inlX4 hown hK hP 21 rfl rfl 3 (by decide) (hts (.fieldLink RX3 94 "SquarePlanes$Stations" "zs" "[I") mw_14_15) (fun _ h9 => h9) rfl dX3_addStation_17 ?_
  refine lv_iload_n hx hb dX3_addStation_20 rfl (lv_at hl 2 rfl) ?_
  refine va_iald hx hb hK hP 25 0 rfl rfl hw.1 dX3_addStation_21 ?_
  have hw := hw.2
  refine fd_v [1, 2] [0, 3] hP hD hS hA rfl rfl rfl (by decide) (va_runV (As := [.int (St_xs p1.toNatClampNeg), .int (St_ys p1.toNatClampNeg), .int (St_zs p1.toNatClampNeg)]) (rest := []) ⟨hx, hb, hml, hown, hts⟩ (k_X1_lookAlong l D cy hPl hPl_lesser hPl_greater hPl_axisOf hPl_axisXs hPl_axisYs hPl_axisZs hPl_axisSquares hPl_poleSigns hPo hPo_xs hPo_ys hPo_zs hPo_countUpTo np nq Pl_poleCount Pl_pairCount Pl_lesser Pl_greater Pl_axisOf Pl_axisXs Pl_axisYs Pl_axisZs Pl_axisSquares Pl_axisCount Pl_poleSigns Po_xs Po_ys Po_zs Po_countUpTo Po_count (St_xs p1.toNatClampNeg) (St_ys p1.toNatClampNeg) (St_zs p1.toNatClampNeg) _ _ hw) (cwV 3 hts (gV mw_14_18 mw_14_19 mw_14_20 mw_2_3 mw_14_21) rfl rfl rfl (by decide +kernel) ⟨Nat.le_of_ble_eq_true rfl, Nat.le_of_ble_eq_true rfl⟩) (fPreV hN hK hP hD [1, 2] rfl rfl 7 (ci := 1) rfl rfl rfl _) rfl rfl hl.1 rfl (lv_room (Nat.le_of_ble_eq_true rfl)) dX3_addStation_22 ⟨Nat.zero_le _, Nat.zero_le _⟩) (fun u H locs hw hP hD hS => ?_)
  obtain ⟨w1, rfl⟩ : ∃ z, z = u := ⟨_, rfl⟩
  try dsimp only at hw
  have hP : va_P D vwCl (List.flatten [wRa cy hRa hRa_misfits hRa_nodals hRa_order hRa_places hRa_counted hRa_begins hPl hBu ns nn Ra_misfits Ra_nodals Ra_order Ra_places Ra_keptCount Ra_least Ra_version Ra_counted Ra_begins, wPl cy hPl hPl_lesser hPl_greater hPl_axisOf hPl_axisXs hPl_axisYs hPl_axisZs hPl_axisSquares hPl_poleSigns hPo np nq Pl_poleCount Pl_pairCount Pl_lesser Pl_greater Pl_axisOf Pl_axisXs Pl_axisYs Pl_axisZs Pl_axisSquares Pl_axisCount w1, wPo cy hPo hPo_xs hPo_ys hPo_zs hPo_countUpTo Po_xs Po_ys Po_zs Po_countUpTo Po_count, wSt cy hSt hSt_there hSt_xs hSt_ys hSt_zs hSt_signs hSt_weights St_there St_xs St_ys St_zs St_signs St_weights]) H := fl_P hP [0, 2, 3, 1] rfl
  have hD : va_D A (List.flatten [wRa cy hRa hRa_misfits hRa_nodals hRa_order hRa_places hRa_counted hRa_begins hPl hBu ns nn Ra_misfits Ra_nodals Ra_order Ra_places Ra_keptCount Ra_least Ra_version Ra_counted Ra_begins, wPl cy hPl hPl_lesser hPl_greater hPl_axisOf hPl_axisXs hPl_axisYs hPl_axisZs hPl_axisSquares hPl_poleSigns hPo np nq Pl_poleCount Pl_pairCount Pl_lesser Pl_greater Pl_axisOf Pl_axisXs Pl_axisYs Pl_axisZs Pl_axisSquares Pl_axisCount w1, wPo cy hPo hPo_xs hPo_ys hPo_zs hPo_countUpTo Po_xs Po_ys Po_zs Po_countUpTo Po_count, wSt cy hSt hSt_there hSt_xs hSt_ys hSt_zs hSt_signs hSt_weights St_there St_xs St_ys St_zs St_signs St_weights]) := fl_D hD [0, 2, 3, 1] rfl rfl
  refine lv_aload_n hx hb dX3_addStation_25 rfl (lv_at hl 1 rfl) ?_
  refine va_get (D := D) (ci := 4) (v := .ref hSt_weights) (C := RX4) (T := TX4) (N := 6) hx hb hts inlX4 hown hK hP 21 rfl rfl 5 (by decide) (hts (.fieldLink RX3 101 "SquarePlanes$Stations" "weights" "[I") mw_14_16) (fun _ h9 => h9) rfl dX3_addStation_26 ?_
  refine lv_iload_n hx hb dX3_addStation_29 rfl (lv_at hl 2 rfl) ?_
  refine va_iald hx hb hK hP 27 0 rfl rfl hw.1 dX3_addStation_30 ?_
  have hw := hw.2
  refine lv_topi (fun x2 ex2 => ?_)
  have hw := hw x2 ex2
  refine lv_istore_n (lv' := [(3, .int x2), (0, .ref hRa), (1, .ref hSt), (2, .int p1)]) hx hb dX3_addStation_31 rfl hl (by decide) rfl (fun ls hl => ?_)
  refine lv_aload_n hx hb dX3_addStation_32 rfl (lv_at hl 2 rfl) ?_
  refine va_get (D := D) (ci := 4) (v := .ref hSt_signs) (C := RX4) (T := TX4) (N := 6) hx hb hts inlX4 hown hK hP 21 rfl rfl 4 (by decide) (hts (.fieldLink RX3 104 "SquarePlanes$Stations" "signs" "[I") mw_14_17) (fun _ h9 => h9) rfl dX3_addStation_33 ?_
  refine lv_iload_n hx hb dX3_addStation_36 rfl (lv_at hl 3 rfl) ?_
  refine va_iald hx hb hK hP 26 0 rfl rfl hw.1 dX3_addStation_37 ?_
  have hw := hw.2
  refine lv_topi (fun x3 ex3 => ?_)
  have hw := hw x3 ex3
  refine lv_istore (lv' := [(4, .int x3), (3, .int x2), (0, .ref hRa), (1, .ref hSt), (2, .int p1)]) hx hb dX3_addStation_38 hl (by decide) rfl (fun ls hl => ?_)
  refine lv_iconst (v := 0) hx hb dX3_addStation_40 (by decide) ?_
  refine lv_istore (lv' := [(5, .int 0), (4, .int x3), (3, .int x2), (0, .ref hRa), (1, .ref hSt), (2, .int p1)]) hx hb dX3_addStation_41 hl (by decide) rfl (fun ls hl => ?_)
  obtain ⟨n43, hw⟩ := hw
  have kl43 : ∀ (K43_128 : Int32 → (Nat → Int32) → (Nat → Int32) → Prop) (hk43_128 : ∀ (y5_43 : Int32) (Ra_misfits_v_43 : Nat → Int32) (Ra_nodals_v_43 : Nat → Int32) (H : Heap) (locs : List Loc) (ls : Array Slot), K43_128 y5_43 Ra_misfits_v_43 Ra_nodals_v_43 → va_P D vwCl (List.flatten [wRa cy hRa hRa_misfits hRa_nodals hRa_order hRa_places hRa_counted hRa_begins hPl hBu ns nn Ra_misfits_v_43 Ra_nodals_v_43 Ra_order Ra_places Ra_keptCount Ra_least Ra_version Ra_counted Ra_begins, wPl cy hPl hPl_lesser hPl_greater hPl_axisOf hPl_axisXs hPl_axisYs hPl_axisZs hPl_axisSquares hPl_poleSigns hPo np nq Pl_poleCount Pl_pairCount Pl_lesser Pl_greater Pl_axisOf Pl_axisXs Pl_axisYs Pl_axisZs Pl_axisSquares Pl_axisCount w1, wPo cy hPo hPo_xs hPo_ys hPo_zs hPo_countUpTo Po_xs Po_ys Po_zs Po_countUpTo Po_count, wSt cy hSt hSt_there hSt_xs hSt_ys hSt_zs hSt_signs hSt_weights St_there St_xs St_ys St_zs St_signs St_weights]) H → va_D A (List.flatten [wRa cy hRa hRa_misfits hRa_nodals hRa_order hRa_places hRa_counted hRa_begins hPl hBu ns nn Ra_misfits_v_43 Ra_nodals_v_43 Ra_order Ra_places Ra_keptCount Ra_least Ra_version Ra_counted Ra_begins, wPl cy hPl hPl_lesser hPl_greater hPl_axisOf hPl_axisXs hPl_axisYs hPl_axisZs hPl_axisSquares hPl_poleSigns hPo np nq Pl_poleCount Pl_pairCount Pl_lesser Pl_greater Pl_axisOf Pl_axisXs Pl_axisYs Pl_axisZs Pl_axisSquares Pl_axisCount w1, wPo cy hPo hPo_xs hPo_ys hPo_zs hPo_countUpTo Po_xs Po_ys Po_zs Po_countUpTo Po_count, wSt cy hSt hSt_there hSt_xs hSt_ys hSt_zs hSt_signs hSt_weights St_there St_xs St_ys St_zs St_signs St_weights]) → va_S A s.heap H locs → lv_has ls 7 [(0, .ref hRa), (1, .ref hSt), (2, .int p1), (3, .int x2), (4, .int x3), (5, .int y5_43)] → W p l e (headSpec (wA yX3_addStation cX3_addStation 7 none) { frames := 2, cells := 0, slots := 0, locals := 48 }).room s m #[.ref hRa, .ref hSt, .int p1] below meth c H locs 0 0 (MQ below (va_Qv (fun (u : (Nat → Int32) × (Nat → Int32) × (Nat → Int32)) => Q u.1 u.2.1 u.2.2) (fun u t => kB D cy A (List.flatten [wRa cy hRa hRa_misfits hRa_nodals hRa_order hRa_places hRa_counted hRa_begins hPl hBu ns nn u.1 u.2.1 Ra_order Ra_places Ra_keptCount Ra_least Ra_version Ra_counted Ra_begins, wPl cy hPl hPl_lesser hPl_greater hPl_axisOf hPl_axisXs hPl_axisYs hPl_axisZs hPl_axisSquares hPl_poleSigns hPo np nq Pl_poleCount Pl_pairCount Pl_lesser Pl_greater Pl_axisOf Pl_axisXs Pl_axisYs Pl_axisZs Pl_axisSquares Pl_axisCount u.2.2, wPo cy hPo hPo_xs hPo_ys hPo_zs hPo_countUpTo Po_xs Po_ys Po_zs Po_countUpTo Po_count, wSt cy hSt hSt_there hSt_xs hSt_ys hSt_zs hSt_signs hSt_weights St_there St_xs St_ys St_zs St_signs St_weights]) t) A) #[.ref hRa, .ref hSt, .int p1] s 0 0 A) (F0 m 128 ls [])) (n : Nat) (y5_43 : Int32) (Ra_misfits_v_43 : Nat → Int32) (Ra_nodals_v_43 : Nat → Int32) (H : Heap) (locs : List Loc) (ls : Array Slot), wp_X3_addStation_L43 ns nn np nq Pl_lesser Pl_greater w1 x2 x3 K43_128 n y5_43 Ra_misfits_v_43 Ra_nodals_v_43 → va_P D vwCl (List.flatten [wRa cy hRa hRa_misfits hRa_nodals hRa_order hRa_places hRa_counted hRa_begins hPl hBu ns nn Ra_misfits_v_43 Ra_nodals_v_43 Ra_order Ra_places Ra_keptCount Ra_least Ra_version Ra_counted Ra_begins, wPl cy hPl hPl_lesser hPl_greater hPl_axisOf hPl_axisXs hPl_axisYs hPl_axisZs hPl_axisSquares hPl_poleSigns hPo np nq Pl_poleCount Pl_pairCount Pl_lesser Pl_greater Pl_axisOf Pl_axisXs Pl_axisYs Pl_axisZs Pl_axisSquares Pl_axisCount w1, wPo cy hPo hPo_xs hPo_ys hPo_zs hPo_countUpTo Po_xs Po_ys Po_zs Po_countUpTo Po_count, wSt cy hSt hSt_there hSt_xs hSt_ys hSt_zs hSt_signs hSt_weights St_there St_xs St_ys St_zs St_signs St_weights]) H → va_D A (List.flatten [wRa cy hRa hRa_misfits hRa_nodals hRa_order hRa_places hRa_counted hRa_begins hPl hBu ns nn Ra_misfits_v_43 Ra_nodals_v_43 Ra_order Ra_places Ra_keptCount Ra_least Ra_version Ra_counted Ra_begins, wPl cy hPl hPl_lesser hPl_greater hPl_axisOf hPl_axisXs hPl_axisYs hPl_axisZs hPl_axisSquares hPl_poleSigns hPo np nq Pl_poleCount Pl_pairCount Pl_lesser Pl_greater Pl_axisOf Pl_axisXs Pl_axisYs Pl_axisZs Pl_axisSquares Pl_axisCount w1, wPo cy hPo hPo_xs hPo_ys hPo_zs hPo_countUpTo Po_xs Po_ys Po_zs Po_countUpTo Po_count, wSt cy hSt hSt_there hSt_xs hSt_ys hSt_zs hSt_signs hSt_weights St_there St_xs St_ys St_zs St_signs St_weights]) → va_S A s.heap H locs → lv_has ls 7 [(0, .ref hRa), (1, .ref hSt), (2, .int p1), (3, .int x2), (4, .int x3), (5, .int y5_43)] → W p l e (headSpec (wA yX3_addStation cX3_addStation 7 none) { frames := 2, cells := 0, slots := 0, locals := 48 }).room s m #[.ref hRa, .ref hSt, .int p1] below meth c H locs 0 0 (MQ below (va_Qv (fun (u : (Nat → Int32) × (Nat → Int32) × (Nat → Int32)) => Q u.1 u.2.1 u.2.2) (fun u t => kB D cy A (List.flatten [wRa cy hRa hRa_misfits hRa_nodals hRa_order hRa_places hRa_counted hRa_begins hPl hBu ns nn u.1 u.2.1 Ra_order Ra_places Ra_keptCount Ra_least Ra_version Ra_counted Ra_begins, wPl cy hPl hPl_lesser hPl_greater hPl_axisOf hPl_axisXs hPl_axisYs hPl_axisZs hPl_axisSquares hPl_poleSigns hPo np nq Pl_poleCount Pl_pairCount Pl_lesser Pl_greater Pl_axisOf Pl_axisXs Pl_axisYs Pl_axisZs Pl_axisSquares Pl_axisCount u.2.2, wPo cy hPo hPo_xs hPo_ys hPo_zs hPo_countUpTo Po_xs Po_ys Po_zs Po_countUpTo Po_count, wSt cy hSt hSt_there hSt_xs hSt_ys hSt_zs hSt_signs hSt_weights St_there St_xs St_ys St_zs St_signs St_weights]) t) A) #[.ref hRa, .ref hSt, .int p1] s 0 0 A) (F0 m 43 ls []) := by
    intro K43_128 hk43_128 n
    induction n with
    | zero =>
      intro y5_43 Ra_misfits_v_43 Ra_nodals_v_43 H locs ls hw
      exact hw.elim
    | succ n ih43 =>
      intro y5_43 Ra_misfits_v_43 Ra_nodals_v_43 H locs ls hw hP hD hS hl
      unfold wp_X3_addStation_L43 at hw
      refine lv_iload hx hb dX3_addStation_43 (lv_at hl 5 rfl) ?_
      refine lv_aload_n hx hb dX3_addStation_45 rfl (lv_at hl 0 rfl) ?_
      refine va_get (D := D) (ci := 3) (v := .ref hRa_nodals) (C := RX3) (T := TX3) (N := 11) hx hb hts inlX3 hown hK hP 0 rfl rfl 3 (by decide) (hts (.fieldLink RX3 47 "SquarePlanes$Ranking" "nodals" "[I") mw_6_9) (fun _ h9 => h9) rfl dX3_addStation_46 ?_
      refine va_alen hx hb hK hP 2 0 rfl rfl rfl dX3_addStation_49 ?_
      refine lv_icmp_ge (tgt := 128) hx hb dX3_addStation_50 (by decide) (fun c8_43 => ?_) (fun c8_43 => ?_)
      · have hw := hw.1 c8_43
        exact hk43_128 y5_43 Ra_misfits_v_43 Ra_nodals_v_43 _ _ ls hw hP hD hS (lv_sub hl [0, 1, 2, 3, 4, 5] rfl)
      · have hw := hw.2 c8_43
        refine lv_aload_n hx hb dX3_addStation_53 rfl (lv_at hl 0 rfl) ?_
        refine va_get (D := D) (ci := 3) (v := .ref hPl) (C := RX3) (T := TX3) (N := 11) hx hb hts inlX3 hown hK hP 0 rfl rfl 0 (by decide) (hts (.fieldLink RX3 22 "SquarePlanes$Ranking" "planes" "LSquarePlanes$Planes;") mw_6_2) (fun _ h9 => h9) rfl dX3_addStation_54 ?_
        refine lv_iload hx hb dX3_addStation_57 (lv_at hl 5 rfl) ?_
        refine kc_i (va_runV (As := [.int y5_43]) (rest := []) ⟨hx, hb, hml, hown, hts⟩ (k_X1_seenPairSign l D cy hPl hPl_lesser hPl_greater hPl_axisOf hPl_axisXs hPl_axisYs hPl_axisZs hPl_axisSquares hPl_poleSigns hPo np nq Pl_poleCount Pl_pairCount Pl_lesser Pl_greater Pl_axisOf Pl_axisXs Pl_axisYs Pl_axisZs Pl_axisSquares Pl_axisCount w1 y5_43 _ _ hw) (cwV 1 hts (gV mw_15_1 mw_15_2 mw_15_3 mw_2_3 mw_15_4) rfl rfl rfl (by decide +kernel) ⟨Nat.le_of_ble_eq_true rfl, Nat.le_of_ble_eq_true rfl⟩) (fPreV hN hK hP hD [1] rfl rfl 7 (ci := 1) rfl rfl rfl _) rfl rfl hl.1 rfl (lv_room (Nat.le_of_ble_eq_true rfl)) dX3_addStation_59 ⟨Nat.zero_le _, Nat.zero_le _⟩) (fun r1_43 hw => ?_)
        refine lv_iload hx hb dX3_addStation_62 (lv_at hl 4 rfl) ?_
        refine lv_imul hx hb dX3_addStation_64 ?_
        refine lv_topi (fun x2_43 ex2_43 => ?_)
        have hw := hw x2_43 ex2_43
        refine lv_istore (lv' := [(6, .int x2_43), (0, .ref hRa), (1, .ref hSt), (2, .int p1), (3, .int x2), (4, .int x3), (5, .int y5_43)]) hx hb dX3_addStation_65 hl (by decide) rfl (fun ls hl => ?_)
        refine lv_iload hx hb dX3_addStation_67 (lv_at hl 0 rfl) ?_
        refine lv_if_ne (tgt := 86) hx hb dX3_addStation_69 (by decide) (fun c7_43 => ?_) (fun c7_43 => ?_)
        · have hw := hw.2 c7_43
          refine lv_iload hx hb dX3_addStation_86 (lv_at hl 0 rfl) ?_
          refine lv_if_ge (tgt := 107) hx hb dX3_addStation_88 (by decide) (fun c5_43 => ?_) (fun c5_43 => ?_)
          · have hw := hw.1 c5_43
            refine lv_aload_n hx hb dX3_addStation_107 rfl (lv_at hl 1 rfl) ?_
            refine va_get (D := D) (ci := 3) (v := .ref hRa_misfits) (C := RX3) (T := TX3) (N := 11) hx hb hts inlX3 hown hK hP 0 rfl rfl 2 (by decide) (hts (.fieldLink RX3 41 "SquarePlanes$Ranking" "misfits" "[I") mw_6_7) (fun _ h9 => h9) rfl dX3_addStation_108 ?_
            refine lv_iconst (v := 2) hx hb dX3_addStation_111 (by decide) ?_
            refine lv_iload hx hb dX3_addStation_112 (lv_at hl 6 rfl) ?_
            refine lv_imul hx hb dX3_addStation_114 ?_
            refine lv_iconst (v := 1) hx hb dX3_addStation_115 (by decide) ?_
            refine lv_iadd hx hb dX3_addStation_116 ?_
            refine lv_dup2_11 hx hb dX3_addStation_117 rfl rfl ?_
            refine va_iald hx hb hK hP 1 0 rfl rfl hw.1 dX3_addStation_118 ?_
            have hw := hw.2
            refine lv_iload_n hx hb dX3_addStation_119 rfl (lv_at hl 4 rfl) ?_
            refine lv_iadd hx hb dX3_addStation_120 ?_
            refine lv_topi (fun x3_43 ex3_43 => ?_)
            have hw := hw x3_43 ex3_43
            refine va_iast hx hb hK hP hD hS 1 0 rfl rfl hw.1 dX3_addStation_121 (fun H locs hP hD hS => ?_)
            have hw := hw.2
            have hP : va_P D vwCl (List.flatten [wRa cy hRa hRa_misfits hRa_nodals hRa_order hRa_places hRa_counted hRa_begins hPl hBu ns nn (upd Ra_misfits_v_43 ((2 * y5_43) + 1).toNatClampNeg x3_43) Ra_nodals_v_43 Ra_order Ra_places Ra_keptCount Ra_least Ra_version Ra_counted Ra_begins, wPl cy hPl hPl_lesser hPl_greater hPl_axisOf hPl_axisXs hPl_axisYs hPl_axisZs hPl_axisSquares hPl_poleSigns hPo np nq Pl_poleCount Pl_pairCount Pl_lesser Pl_greater Pl_axisOf Pl_axisXs Pl_axisYs Pl_axisZs Pl_axisSquares Pl_axisCount w1, wPo cy hPo hPo_xs hPo_ys hPo_zs hPo_countUpTo Po_xs Po_ys Po_zs Po_countUpTo Po_count, wSt cy hSt hSt_there hSt_xs hSt_ys hSt_zs hSt_signs hSt_weights St_there St_xs St_ys St_zs St_signs St_weights]) H := hP
            have hD : va_D A (List.flatten [wRa cy hRa hRa_misfits hRa_nodals hRa_order hRa_places hRa_counted hRa_begins hPl hBu ns nn (upd Ra_misfits_v_43 ((2 * y5_43) + 1).toNatClampNeg x3_43) Ra_nodals_v_43 Ra_order Ra_places Ra_keptCount Ra_least Ra_version Ra_counted Ra_begins, wPl cy hPl hPl_lesser hPl_greater hPl_axisOf hPl_axisXs hPl_axisYs hPl_axisZs hPl_axisSquares hPl_poleSigns hPo np nq Pl_poleCount Pl_pairCount Pl_lesser Pl_greater Pl_axisOf Pl_axisXs Pl_axisYs Pl_axisZs Pl_axisSquares Pl_axisCount w1, wPo cy hPo hPo_xs hPo_ys hPo_zs hPo_countUpTo Po_xs Po_ys Po_zs Po_countUpTo Po_count, wSt cy hSt hSt_there hSt_xs hSt_ys hSt_zs hSt_signs hSt_weights St_there St_xs St_ys St_zs St_signs St_weights]) := hD
            refine lv_iinc (v := y5_43 + 1) (lv' := [(5, .int (y5_43 + 1)), (6, .int x2_43), (0, .ref hRa), (1, .ref hSt), (2, .int p1), (3, .int x2), (4, .int x3)]) hx hb dX3_addStation_122 hl (k := 6) rfl rfl (by decide) rfl (fun ls hl => ?_)
            refine lv_goto (tgt := 43) hx hb dX3_addStation_125 (by decide) ?_
            exact ih43 (y5_43 + 1) (upd Ra_misfits_v_43 ((2 * y5_43) + 1).toNatClampNeg x3_43) Ra_nodals_v_43 _ _ ls hw hP hD hS (lv_sub hl [2, 3, 4, 5, 6, 0] rfl)
          · have hw := hw.2 c5_43
            refine lv_aload_n hx hb dX3_addStation_91 rfl (lv_at hl 1 rfl) ?_
            refine va_get (D := D) (ci := 3) (v := .ref hRa_misfits) (C := RX3) (T := TX3) (N := 11) hx hb hts inlX3 hown hK hP 0 rfl rfl 2 (by decide) (hts (.fieldLink RX3 41 "SquarePlanes$Ranking" "misfits" "[I") mw_6_7) (fun _ h9 => h9) rfl dX3_addStation_92 ?_
            refine lv_iconst (v := 2) hx hb dX3_addStation_95 (by decide) ?_
            refine lv_iload hx hb dX3_addStation_96 (lv_at hl 6 rfl) ?_
            refine lv_imul hx hb dX3_addStation_98 ?_
            refine lv_dup2_11 hx hb dX3_addStation_99 rfl rfl ?_
            refine va_iald hx hb hK hP 1 0 rfl rfl hw.1 dX3_addStation_100 ?_
            have hw := hw.2
            refine lv_iload_n hx hb dX3_addStation_101 rfl (lv_at hl 4 rfl) ?_
            refine lv_iadd hx hb dX3_addStation_102 ?_
            refine lv_topi (fun x4_43 ex4_43 => ?_)
            have hw := hw x4_43 ex4_43
            refine va_iast hx hb hK hP hD hS 1 0 rfl rfl hw.1 dX3_addStation_103 (fun H locs hP hD hS => ?_)
            have hw := hw.2
            have hP : va_P D vwCl (List.flatten [wRa cy hRa hRa_misfits hRa_nodals hRa_order hRa_places hRa_counted hRa_begins hPl hBu ns nn (upd Ra_misfits_v_43 (2 * y5_43).toNatClampNeg x4_43) Ra_nodals_v_43 Ra_order Ra_places Ra_keptCount Ra_least Ra_version Ra_counted Ra_begins, wPl cy hPl hPl_lesser hPl_greater hPl_axisOf hPl_axisXs hPl_axisYs hPl_axisZs hPl_axisSquares hPl_poleSigns hPo np nq Pl_poleCount Pl_pairCount Pl_lesser Pl_greater Pl_axisOf Pl_axisXs Pl_axisYs Pl_axisZs Pl_axisSquares Pl_axisCount w1, wPo cy hPo hPo_xs hPo_ys hPo_zs hPo_countUpTo Po_xs Po_ys Po_zs Po_countUpTo Po_count, wSt cy hSt hSt_there hSt_xs hSt_ys hSt_zs hSt_signs hSt_weights St_there St_xs St_ys St_zs St_signs St_weights]) H := hP
            have hD : va_D A (List.flatten [wRa cy hRa hRa_misfits hRa_nodals hRa_order hRa_places hRa_counted hRa_begins hPl hBu ns nn (upd Ra_misfits_v_43 (2 * y5_43).toNatClampNeg x4_43) Ra_nodals_v_43 Ra_order Ra_places Ra_keptCount Ra_least Ra_version Ra_counted Ra_begins, wPl cy hPl hPl_lesser hPl_greater hPl_axisOf hPl_axisXs hPl_axisYs hPl_axisZs hPl_axisSquares hPl_poleSigns hPo np nq Pl_poleCount Pl_pairCount Pl_lesser Pl_greater Pl_axisOf Pl_axisXs Pl_axisYs Pl_axisZs Pl_axisSquares Pl_axisCount w1, wPo cy hPo hPo_xs hPo_ys hPo_zs hPo_countUpTo Po_xs Po_ys Po_zs Po_countUpTo Po_count, wSt cy hSt hSt_there hSt_xs hSt_ys hSt_zs hSt_signs hSt_weights St_there St_xs St_ys St_zs St_signs St_weights]) := hD
            refine lv_goto (tgt := 122) hx hb dX3_addStation_104 (by decide) ?_
            refine lv_iinc (v := y5_43 + 1) (lv' := [(5, .int (y5_43 + 1)), (6, .int x2_43), (0, .ref hRa), (1, .ref hSt), (2, .int p1), (3, .int x2), (4, .int x3)]) hx hb dX3_addStation_122 hl (k := 6) rfl rfl (by decide) rfl (fun ls hl => ?_)
            refine lv_goto (tgt := 43) hx hb dX3_addStation_125 (by decide) ?_
            exact ih43 (y5_43 + 1) (upd Ra_misfits_v_43 (2 * y5_43).toNatClampNeg x4_43) Ra_nodals_v_43 _ _ ls hw hP hD hS (lv_sub hl [2, 3, 4, 5, 6, 0] rfl)
        · have hw := hw.1 c7_43
          refine lv_aload_n hx hb dX3_addStation_72 rfl (lv_at hl 1 rfl) ?_
          refine va_get (D := D) (ci := 3) (v := .ref hRa_nodals) (C := RX3) (T := TX3) (N := 11) hx hb hts inlX3 hown hK hP 0 rfl rfl 3 (by decide) (hts (.fieldLink RX3 47 "SquarePlanes$Ranking" "nodals" "[I") mw_6_9) (fun _ h9 => h9) rfl dX3_addStation_73 ?_
          refine lv_iload hx hb dX3_addStation_76 (lv_at hl 6 rfl) ?_
          refine lv_dup2_11 hx hb dX3_addStation_78 rfl rfl ?_
          refine va_iald hx hb hK hP 2 0 rfl rfl hw.1 dX3_addStation_79 ?_
          have hw := hw.2
          refine lv_iload_n hx hb dX3_addStation_80 rfl (lv_at hl 4 rfl) ?_
          refine lv_iadd hx hb dX3_addStation_81 ?_
          refine lv_topi (fun x6_43 ex6_43 => ?_)
          have hw := hw x6_43 ex6_43
          refine va_iast hx hb hK hP hD hS 2 0 rfl rfl hw.1 dX3_addStation_82 (fun H locs hP hD hS => ?_)
          have hw := hw.2
          have hP : va_P D vwCl (List.flatten [wRa cy hRa hRa_misfits hRa_nodals hRa_order hRa_places hRa_counted hRa_begins hPl hBu ns nn Ra_misfits_v_43 (upd Ra_nodals_v_43 y5_43.toNatClampNeg x6_43) Ra_order Ra_places Ra_keptCount Ra_least Ra_version Ra_counted Ra_begins, wPl cy hPl hPl_lesser hPl_greater hPl_axisOf hPl_axisXs hPl_axisYs hPl_axisZs hPl_axisSquares hPl_poleSigns hPo np nq Pl_poleCount Pl_pairCount Pl_lesser Pl_greater Pl_axisOf Pl_axisXs Pl_axisYs Pl_axisZs Pl_axisSquares Pl_axisCount w1, wPo cy hPo hPo_xs hPo_ys hPo_zs hPo_countUpTo Po_xs Po_ys Po_zs Po_countUpTo Po_count, wSt cy hSt hSt_there hSt_xs hSt_ys hSt_zs hSt_signs hSt_weights St_there St_xs St_ys St_zs St_signs St_weights]) H := hP
          have hD : va_D A (List.flatten [wRa cy hRa hRa_misfits hRa_nodals hRa_order hRa_places hRa_counted hRa_begins hPl hBu ns nn Ra_misfits_v_43 (upd Ra_nodals_v_43 y5_43.toNatClampNeg x6_43) Ra_order Ra_places Ra_keptCount Ra_least Ra_version Ra_counted Ra_begins, wPl cy hPl hPl_lesser hPl_greater hPl_axisOf hPl_axisXs hPl_axisYs hPl_axisZs hPl_axisSquares hPl_poleSigns hPo np nq Pl_poleCount Pl_pairCount Pl_lesser Pl_greater Pl_axisOf Pl_axisXs Pl_axisYs Pl_axisZs Pl_axisSquares Pl_axisCount w1, wPo cy hPo hPo_xs hPo_ys hPo_zs hPo_countUpTo Po_xs Po_ys Po_zs Po_countUpTo Po_count, wSt cy hSt hSt_there hSt_xs hSt_ys hSt_zs hSt_signs hSt_weights St_there St_xs St_ys St_zs St_signs St_weights]) := hD
          refine lv_goto (tgt := 122) hx hb dX3_addStation_83 (by decide) ?_
          refine lv_iinc (v := y5_43 + 1) (lv' := [(5, .int (y5_43 + 1)), (6, .int x2_43), (0, .ref hRa), (1, .ref hSt), (2, .int p1), (3, .int x2), (4, .int x3)]) hx hb dX3_addStation_122 hl (k := 6) rfl rfl (by decide) rfl (fun ls hl => ?_)
          refine lv_goto (tgt := 43) hx hb dX3_addStation_125 (by decide) ?_
          exact ih43 (y5_43 + 1) Ra_misfits_v_43 (upd Ra_nodals_v_43 y5_43.toNatClampNeg x6_43) _ _ ls hw hP hD hS (lv_sub hl [2, 3, 4, 5, 6, 0] rfl)
  refine kl43 _ ?_ n43 0 Ra_misfits Ra_nodals _ _ ls hw hP hD hS (lv_sub hl [3, 4, 5, 2, 1, 0] rfl)
  · intro y5_43 Ra_misfits_v_43 Ra_nodals_v_43 H locs ls hw hP hD hS hl
    exact W.vret hx hb hr (fun t ht hW => ⟨⟨(Ra_misfits_v_43, Ra_nodals_v_43, w1), rfl, hw, ⟨by rw [ht]; exact hP, va_K.moved hW.alike hK, hD⟩⟩, hS.F ht⟩) hS.2.2 dX3_addStation_128
set_option maxHeartbeats 4000000 in
set_option maxRecDepth 100000 in
theorem k_X3_keptWithSign (l : Launch) (D : va_G) (cy : Nat → ClassId) (hRa hRa_misfits hRa_nodals hRa_order hRa_places hRa_counted hRa_begins hPl hBu hPl_lesser hPl_greater hPl_axisOf hPl_axisXs hPl_axisYs hPl_axisZs hPl_axisSquares hPl_poleSigns hPo hPo_xs hPo_ys hPo_zs hPo_countUpTo ns nn np nq : Nat) (Ra_misfits : Nat → Int32) (Ra_nodals : Nat → Int32) (Ra_order : Nat → Int32) (Ra_places : Nat → Int32) (Ra_keptCount : Int32) (Ra_least : Int32) (Ra_version : Int32) (Ra_counted : Nat → Int32) (Ra_begins : Nat → Int32) (Pl_poleCount : Int32) (Pl_pairCount : Int32) (Pl_lesser : Nat → Int32) (Pl_greater : Nat → Int32) (Pl_axisOf : Nat → Int32) (Pl_axisXs : Nat → Int32) (Pl_axisYs : Nat → Int32) (Pl_axisZs : Nat → Int32) (Pl_axisSquares : Nat → Int32) (Pl_axisCount : Int32) (Pl_poleSigns : Nat → Int32) (Po_xs : Nat → Int32) (Po_ys : Nat → Int32) (Po_zs : Nat → Int32) (Po_countUpTo : Nat → Int32) (Po_count : Int32) (p0 : Int32) (p1 : Int32) (p2 : Int32) (p3 : Int32) (sz : Nat) (Q : Int32 → (Nat → Int32) → Prop) (hw : wp_X3_keptWithSign p0 p1 p2 p3 ns nn np nq Ra_order Ra_keptCount Pl_poleCount Pl_lesser Pl_greater Pl_poleSigns Po_xs Po_ys Po_zs Q) : Met l yX3_keptWithSign (wA yX3_keptWithSign cX3_keptWithSign 7 (some .int)) { frames := 2, cells := 0, slots := 0, locals := 48 } (kPc [.ref hRa, .int p0, .int p1, .int p2, .int p3] D cy (List.flatten [wRa cy hRa hRa_misfits hRa_nodals hRa_order hRa_places hRa_counted hRa_begins hPl hBu ns nn Ra_misfits Ra_nodals Ra_order Ra_places Ra_keptCount Ra_least Ra_version Ra_counted Ra_begins, wPl cy hPl hPl_lesser hPl_greater hPl_axisOf hPl_axisXs hPl_axisYs hPl_axisZs hPl_axisSquares hPl_poleSigns hPo np nq Pl_poleCount Pl_pairCount Pl_lesser Pl_greater Pl_axisOf Pl_axisXs Pl_axisYs Pl_axisZs Pl_axisSquares Pl_axisCount Pl_poleSigns, wPo cy hPo hPo_xs hPo_ys hPo_zs hPo_countUpTo Po_xs Po_ys Po_zs Po_countUpTo Po_count]) sz) (va_Qi (fun (r : Int32) (u : (Nat → Int32)) => Q r u) (fun u t => kB D cy (va_A (List.flatten [wRa cy hRa hRa_misfits hRa_nodals hRa_order hRa_places hRa_counted hRa_begins hPl hBu ns nn Ra_misfits Ra_nodals Ra_order Ra_places Ra_keptCount Ra_least Ra_version Ra_counted Ra_begins, wPl cy hPl hPl_lesser hPl_greater hPl_axisOf hPl_axisXs hPl_axisYs hPl_axisZs hPl_axisSquares hPl_poleSigns hPo np nq Pl_poleCount Pl_pairCount Pl_lesser Pl_greater Pl_axisOf Pl_axisXs Pl_axisYs Pl_axisZs Pl_axisSquares Pl_axisCount Pl_poleSigns, wPo cy hPo hPo_xs hPo_ys hPo_zs hPo_countUpTo Po_xs Po_ys Po_zs Po_countUpTo Po_count]) sz) (List.flatten [wRa cy hRa hRa_misfits hRa_nodals hRa_order hRa_places hRa_counted hRa_begins hPl hBu ns nn Ra_misfits Ra_nodals Ra_order Ra_places Ra_keptCount Ra_least Ra_version Ra_counted Ra_begins, wPl cy hPl hPl_lesser hPl_greater hPl_axisOf hPl_axisXs hPl_axisYs hPl_axisZs hPl_axisSquares hPl_poleSigns hPo np nq Pl_poleCount Pl_pairCount Pl_lesser Pl_greater Pl_axisOf Pl_axisXs Pl_axisYs Pl_axisZs Pl_axisSquares Pl_axisCount u, wPo cy hPo hPo_xs hPo_ys hPo_zs hPo_countUpTo Po_xs Po_ys Po_zs Po_countUpTo Po_count]) t) (va_A (List.flatten [wRa cy hRa hRa_misfits hRa_nodals hRa_order hRa_places hRa_counted hRa_begins hPl hBu ns nn Ra_misfits Ra_nodals Ra_order Ra_places Ra_keptCount Ra_least Ra_version Ra_counted Ra_begins, wPl cy hPl hPl_lesser hPl_greater hPl_axisOf hPl_axisXs hPl_axisYs hPl_axisZs hPl_axisSquares hPl_poleSigns hPo np nq Pl_poleCount Pl_pairCount Pl_lesser Pl_greater Pl_axisOf Pl_axisXs Pl_axisYs Pl_axisZs Pl_axisSquares Pl_axisCount Pl_poleSigns, wPo cy hPo hPo_xs hPo_ys hPo_zs hPo_countUpTo Po_xs Po_ys Po_zs Po_countUpTo Po_count]) sz)) 0 0 (va_A (List.flatten [wRa cy hRa hRa_misfits hRa_nodals hRa_order hRa_places hRa_counted hRa_begins hPl hBu ns nn Ra_misfits Ra_nodals Ra_order Ra_places Ra_keptCount Ra_least Ra_version Ra_counted Ra_begins, wPl cy hPl hPl_lesser hPl_greater hPl_axisOf hPl_axisXs hPl_axisYs hPl_axisZs hPl_axisSquares hPl_poleSigns hPo np nq Pl_poleCount Pl_pairCount Pl_lesser Pl_greater Pl_axisOf Pl_axisXs Pl_axisYs Pl_axisZs Pl_axisSquares Pl_axisCount Pl_poleSigns, wPo cy hPo hPo_xs hPo_ys hPo_zs hPo_countUpTo Po_xs Po_ys Po_zs Po_countUpTo Po_count]) sz) := by
  refine Met.ofW (cc := cX3_keptWithSign) (maxL := 7) (ret := (some .int)) (by decide) rfl ?_
  intro p e s m args below meth c s₁ B hml hv
  obtain ⟨rfl, hsz, hN, hP, hK, hD0⟩ := hv
  have hx := B.exec
  have hb := B.bytes
  have hr := B.returns
  have hts0 := atoms_spec (ws := wA yX3_keptWithSign cX3_keptWithSign 7 (some .int)) B.pre
  have hts := fun w (h : w ∈ wsL_law) => hts0 w (List.mem_cons_of_mem _ h)
  have hown : s.vm.findClass RX3 = some m.cls := findClass_of_methodNamed B.named
  have hlocks := B.notSynchronized
  subst hsz
  have hD := hD0.self (sz := s.heap.size)
  generalize hAe : va_A (List.flatten [wRa cy hRa hRa_misfits hRa_nodals hRa_order hRa_places hRa_counted hRa_begins hPl hBu ns nn Ra_misfits Ra_nodals Ra_order Ra_places Ra_keptCount Ra_least Ra_version Ra_counted Ra_begins, wPl cy hPl hPl_lesser hPl_greater hPl_axisOf hPl_axisXs hPl_axisYs hPl_axisZs hPl_axisSquares hPl_poleSigns hPo np nq Pl_poleCount Pl_pairCount Pl_lesser Pl_greater Pl_axisOf Pl_axisXs Pl_axisYs Pl_axisZs Pl_axisSquares Pl_axisCount Pl_poleSigns, wPo cy hPo hPo_xs hPo_ys hPo_zs hPo_countUpTo Po_xs Po_ys Po_zs Po_countUpTo Po_count]) s.heap.size = A at hD ⊢
  have hA : ∀ q : Nat, s.heap.size ≤ q → A q := fun q h => by rw [← hAe]; exact Or.inr h
  have hS : va_S A s.heap s.heap [] := va_S.rf
  have hP : va_P D vwCl (List.flatten [wRa cy hRa hRa_misfits hRa_nodals hRa_order hRa_places hRa_counted hRa_begins hPl hBu ns nn Ra_misfits Ra_nodals Ra_order Ra_places Ra_keptCount Ra_least Ra_version Ra_counted Ra_begins, wPl cy hPl hPl_lesser hPl_greater hPl_axisOf hPl_axisXs hPl_axisYs hPl_axisZs hPl_axisSquares hPl_poleSigns hPo np nq Pl_poleCount Pl_pairCount Pl_lesser Pl_greater Pl_axisOf Pl_axisXs Pl_axisYs Pl_axisZs Pl_axisSquares Pl_axisCount Pl_poleSigns, wPo cy hPo hPo_xs hPo_ys hPo_zs hPo_countUpTo Po_xs Po_ys Po_zs Po_countUpTo Po_count]) s.heap := hP
  have hl := lv_entry ([.ref hRa, .int p0, .int p1, .int p2, .int p3]) (n := 7) (Nat.le_of_ble_eq_true rfl)
  rw [lg_entry_eq]
  generalize (lg_sl ([.ref hRa, .int p0, .int p1, .int p2, .int p3]) ++ List.replicate (7 - (lg_sl ([.ref hRa, .int p0, .int p1, .int p2, .int p3])).length) Slot.unset).toArray = ls at hl ⊢
  have hl : lv_has ls 7 [(0, .ref hRa), (1, .int p0), (2, .int p1), (3, .int p2), (4, .int p3)] := hl
  unfold wp_X3_keptWithSign at hw
  refine lv_aload_n hx hb dX3_keptWithSign_0 rfl (lv_at hl 0 rfl) ?_
  refine va_get (D := D) (ci := 3) (v := .ref hPl) (C := RX3) (T := TX3) (N := 11) hx hb hts inlX3 hown hK hP 0 rfl rfl 0 (by decide) (hts (.fieldLink RX3 22 "SquarePlanes$Ranking" "planes" "LSquarePlanes$Planes;") mw_6_2) (fun _ h9 => h9) rfl dX3_keptWithSign_1 ?_
  refine lv_iload_n hx hb dX3_keptWithSign_4 rfl (lv_at hl 1 rfl) ?_
  refine lv_iload_n hx hb dX3_keptWithSign_5 rfl (lv_at hl 2 rfl) ?_
  refine lv_iload_n hx hb dX3_keptWithSign_6 rfl (lv_at hl 3 rfl) ?_
  refine fd_v [1, 2] [0] hP hD hS hA rfl rfl rfl (by decide) (va_runV (As := [.int p0, .int p1, .int p2]) (rest := []) ⟨hx, hb, hml, hown, hts⟩ (k_X1_lookAlong l D cy hPl hPl_lesser hPl_greater hPl_axisOf hPl_axisXs hPl_axisYs hPl_axisZs hPl_axisSquares hPl_poleSigns hPo hPo_xs hPo_ys hPo_zs hPo_countUpTo np nq Pl_poleCount Pl_pairCount Pl_lesser Pl_greater Pl_axisOf Pl_axisXs Pl_axisYs Pl_axisZs Pl_axisSquares Pl_axisCount Pl_poleSigns Po_xs Po_ys Po_zs Po_countUpTo Po_count p0 p1 p2 _ _ hw) (cwV 3 hts (gV mw_14_18 mw_14_19 mw_14_20 mw_2_3 mw_14_21) rfl rfl rfl (by decide +kernel) ⟨Nat.le_of_ble_eq_true rfl, Nat.le_of_ble_eq_true rfl⟩) (fPreV hN hK hP hD [1, 2] rfl rfl 7 (ci := 1) rfl rfl rfl _) rfl rfl hl.1 rfl (lv_room (Nat.le_of_ble_eq_true rfl)) dX3_keptWithSign_7 ⟨Nat.zero_le _, Nat.zero_le _⟩) (fun u H locs hw hP hD hS => ?_)
  obtain ⟨w1, rfl⟩ : ∃ z, z = u := ⟨_, rfl⟩
  try dsimp only at hw
  have hP : va_P D vwCl (List.flatten [wRa cy hRa hRa_misfits hRa_nodals hRa_order hRa_places hRa_counted hRa_begins hPl hBu ns nn Ra_misfits Ra_nodals Ra_order Ra_places Ra_keptCount Ra_least Ra_version Ra_counted Ra_begins, wPl cy hPl hPl_lesser hPl_greater hPl_axisOf hPl_axisXs hPl_axisYs hPl_axisZs hPl_axisSquares hPl_poleSigns hPo np nq Pl_poleCount Pl_pairCount Pl_lesser Pl_greater Pl_axisOf Pl_axisXs Pl_axisYs Pl_axisZs Pl_axisSquares Pl_axisCount w1, wPo cy hPo hPo_xs hPo_ys hPo_zs hPo_countUpTo Po_xs Po_ys Po_zs Po_countUpTo Po_count]) H := fl_P hP [0, 1, 2] rfl
  have hD : va_D A (List.flatten [wRa cy hRa hRa_misfits hRa_nodals hRa_order hRa_places hRa_counted hRa_begins hPl hBu ns nn Ra_misfits Ra_nodals Ra_order Ra_places Ra_keptCount Ra_least Ra_version Ra_counted Ra_begins, wPl cy hPl hPl_lesser hPl_greater hPl_axisOf hPl_axisXs hPl_axisYs hPl_axisZs hPl_axisSquares hPl_poleSigns hPo np nq Pl_poleCount Pl_pairCount Pl_lesser Pl_greater Pl_axisOf Pl_axisXs Pl_axisYs Pl_axisZs Pl_axisSquares Pl_axisCount w1, wPo cy hPo hPo_xs hPo_ys hPo_zs hPo_countUpTo Po_xs Po_ys Po_zs Po_countUpTo Po_count]) := fl_D hD [0, 1, 2] rfl rfl
  refine lv_iconst (v := 0) hx hb dX3_keptWithSign_10 (by decide) ?_
  refine lv_istore (lv' := [(5, .int 0), (0, .ref hRa), (1, .int p0), (2, .int p1), (3, .int p2), (4, .int p3)]) hx hb dX3_keptWithSign_11 hl (by decide) rfl (fun ls hl => ?_)
  refine lv_iconst (v := 0) hx hb dX3_keptWithSign_13 (by decide) ?_
  refine lv_istore (lv' := [(6, .int 0), (5, .int 0), (0, .ref hRa), (1, .int p0), (2, .int p1), (3, .int p2), (4, .int p3)]) hx hb dX3_keptWithSign_14 hl (by decide) rfl (fun ls hl => ?_)
  obtain ⟨n16, hw⟩ := hw
  have kl16 : ∀ (K16_53 : Int32 → Int32 → Prop) (hk16_53 : ∀ (y5_16 : Int32) (y6_16 : Int32) (H : Heap) (locs : List Loc) (ls : Array Slot), K16_53 y5_16 y6_16 → va_P D vwCl (List.flatten [wRa cy hRa hRa_misfits hRa_nodals hRa_order hRa_places hRa_counted hRa_begins hPl hBu ns nn Ra_misfits Ra_nodals Ra_order Ra_places Ra_keptCount Ra_least Ra_version Ra_counted Ra_begins, wPl cy hPl hPl_lesser hPl_greater hPl_axisOf hPl_axisXs hPl_axisYs hPl_axisZs hPl_axisSquares hPl_poleSigns hPo np nq Pl_poleCount Pl_pairCount Pl_lesser Pl_greater Pl_axisOf Pl_axisXs Pl_axisYs Pl_axisZs Pl_axisSquares Pl_axisCount w1, wPo cy hPo hPo_xs hPo_ys hPo_zs hPo_countUpTo Po_xs Po_ys Po_zs Po_countUpTo Po_count]) H → va_D A (List.flatten [wRa cy hRa hRa_misfits hRa_nodals hRa_order hRa_places hRa_counted hRa_begins hPl hBu ns nn Ra_misfits Ra_nodals Ra_order Ra_places Ra_keptCount Ra_least Ra_version Ra_counted Ra_begins, wPl cy hPl hPl_lesser hPl_greater hPl_axisOf hPl_axisXs hPl_axisYs hPl_axisZs hPl_axisSquares hPl_poleSigns hPo np nq Pl_poleCount Pl_pairCount Pl_lesser Pl_greater Pl_axisOf Pl_axisXs Pl_axisYs Pl_axisZs Pl_axisSquares Pl_axisCount w1, wPo cy hPo hPo_xs hPo_ys hPo_zs hPo_countUpTo Po_xs Po_ys Po_zs Po_countUpTo Po_count]) → va_S A s.heap H locs → lv_has ls 7 [(0, .ref hRa), (1, .int p0), (2, .int p1), (3, .int p2), (4, .int p3), (5, .int y5_16), (6, .int y6_16)] → W p l e (headSpec (wA yX3_keptWithSign cX3_keptWithSign 7 (some .int)) { frames := 2, cells := 0, slots := 0, locals := 48 }).room s m #[.ref hRa, .int p0, .int p1, .int p2, .int p3] below meth c H locs 0 0 (MQ below (va_Qi (fun (r : Int32) (u : (Nat → Int32)) => Q r u) (fun u t => kB D cy A (List.flatten [wRa cy hRa hRa_misfits hRa_nodals hRa_order hRa_places hRa_counted hRa_begins hPl hBu ns nn Ra_misfits Ra_nodals Ra_order Ra_places Ra_keptCount Ra_least Ra_version Ra_counted Ra_begins, wPl cy hPl hPl_lesser hPl_greater hPl_axisOf hPl_axisXs hPl_axisYs hPl_axisZs hPl_axisSquares hPl_poleSigns hPo np nq Pl_poleCount Pl_pairCount Pl_lesser Pl_greater Pl_axisOf Pl_axisXs Pl_axisYs Pl_axisZs Pl_axisSquares Pl_axisCount u, wPo cy hPo hPo_xs hPo_ys hPo_zs hPo_countUpTo Po_xs Po_ys Po_zs Po_countUpTo Po_count]) t) A) #[.ref hRa, .int p0, .int p1, .int p2, .int p3] s 0 0 A) (F0 m 53 ls [])) (n : Nat) (y5_16 : Int32) (y6_16 : Int32) (H : Heap) (locs : List Loc) (ls : Array Slot), wp_X3_keptWithSign_L16 p3 ns np nq Ra_order Ra_keptCount Pl_lesser Pl_greater w1 K16_53 n y5_16 y6_16 → va_P D vwCl (List.flatten [wRa cy hRa hRa_misfits hRa_nodals hRa_order hRa_places hRa_counted hRa_begins hPl hBu ns nn Ra_misfits Ra_nodals Ra_order Ra_places Ra_keptCount Ra_least Ra_version Ra_counted Ra_begins, wPl cy hPl hPl_lesser hPl_greater hPl_axisOf hPl_axisXs hPl_axisYs hPl_axisZs hPl_axisSquares hPl_poleSigns hPo np nq Pl_poleCount Pl_pairCount Pl_lesser Pl_greater Pl_axisOf Pl_axisXs Pl_axisYs Pl_axisZs Pl_axisSquares Pl_axisCount w1, wPo cy hPo hPo_xs hPo_ys hPo_zs hPo_countUpTo Po_xs Po_ys Po_zs Po_countUpTo Po_count]) H → va_D A (List.flatten [wRa cy hRa hRa_misfits hRa_nodals hRa_order hRa_places hRa_counted hRa_begins hPl hBu ns nn Ra_misfits Ra_nodals Ra_order Ra_places Ra_keptCount Ra_least Ra_version Ra_counted Ra_begins, wPl cy hPl hPl_lesser hPl_greater hPl_axisOf hPl_axisXs hPl_axisYs hPl_axisZs hPl_axisSquares hPl_poleSigns hPo np nq Pl_poleCount Pl_pairCount Pl_lesser Pl_greater Pl_axisOf Pl_axisXs Pl_axisYs Pl_axisZs Pl_axisSquares Pl_axisCount w1, wPo cy hPo hPo_xs hPo_ys hPo_zs hPo_countUpTo Po_xs Po_ys Po_zs Po_countUpTo Po_count]) → va_S A s.heap H locs → lv_has ls 7 [(0, .ref hRa), (1, .int p0), (2, .int p1), (3, .int p2), (4, .int p3), (5, .int y5_16), (6, .int y6_16)] → W p l e (headSpec (wA yX3_keptWithSign cX3_keptWithSign 7 (some .int)) { frames := 2, cells := 0, slots := 0, locals := 48 }).room s m #[.ref hRa, .int p0, .int p1, .int p2, .int p3] below meth c H locs 0 0 (MQ below (va_Qi (fun (r : Int32) (u : (Nat → Int32)) => Q r u) (fun u t => kB D cy A (List.flatten [wRa cy hRa hRa_misfits hRa_nodals hRa_order hRa_places hRa_counted hRa_begins hPl hBu ns nn Ra_misfits Ra_nodals Ra_order Ra_places Ra_keptCount Ra_least Ra_version Ra_counted Ra_begins, wPl cy hPl hPl_lesser hPl_greater hPl_axisOf hPl_axisXs hPl_axisYs hPl_axisZs hPl_axisSquares hPl_poleSigns hPo np nq Pl_poleCount Pl_pairCount Pl_lesser Pl_greater Pl_axisOf Pl_axisXs Pl_axisYs Pl_axisZs Pl_axisSquares Pl_axisCount u, wPo cy hPo hPo_xs hPo_ys hPo_zs hPo_countUpTo Po_xs Po_ys Po_zs Po_countUpTo Po_count]) t) A) #[.ref hRa, .int p0, .int p1, .int p2, .int p3] s 0 0 A) (F0 m 16 ls []) := by
    intro K16_53 hk16_53 n
    induction n with
    | zero =>
      intro y5_16 y6_16 H locs ls hw
      exact hw.elim
    | succ n ih16 =>
      intro y5_16 y6_16 H locs ls hw hP hD hS hl
      unfold wp_X3_keptWithSign_L16 at hw
      refine lv_iload hx hb dX3_keptWithSign_16 (lv_at hl 6 rfl) ?_
      refine lv_aload_n hx hb dX3_keptWithSign_18 rfl (lv_at hl 0 rfl) ?_
      refine va_get (D := D) (ci := 3) (v := .int Ra_keptCount) (C := RX3) (T := TX3) (N := 11) hx hb hts inlX3 hown hK hP 0 rfl rfl 6 (by decide) (hts (.fieldLink RX3 118 "SquarePlanes$Ranking" "keptCount" "I") mw_15_9) (fun _ h9 => h9) rfl dX3_keptWithSign_19 ?_
      refine lv_icmp_ge (tgt := 53) hx hb dX3_keptWithSign_22 (by decide) (fun c3_16 => ?_) (fun c3_16 => ?_)
      · have hw := hw.1 c3_16
        exact hk16_53 y5_16 y6_16 _ _ ls hw hP hD hS (lv_sub hl [0, 1, 2, 3, 4, 5, 6] rfl)
      · have hw := hw.2 c3_16
        refine lv_aload_n hx hb dX3_keptWithSign_25 rfl (lv_at hl 0 rfl) ?_
        refine va_get (D := D) (ci := 3) (v := .ref hPl) (C := RX3) (T := TX3) (N := 11) hx hb hts inlX3 hown hK hP 0 rfl rfl 0 (by decide) (hts (.fieldLink RX3 22 "SquarePlanes$Ranking" "planes" "LSquarePlanes$Planes;") mw_6_2) (fun _ h9 => h9) rfl dX3_keptWithSign_26 ?_
        refine lv_aload_n hx hb dX3_keptWithSign_29 rfl (lv_at hl 0 rfl) ?_
        refine va_get (D := D) (ci := 3) (v := .ref hRa_order) (C := RX3) (T := TX3) (N := 11) hx hb hts inlX3 hown hK hP 0 rfl rfl 4 (by decide) (hts (.fieldLink RX3 50 "SquarePlanes$Ranking" "order" "[I") mw_6_10) (fun _ h9 => h9) rfl dX3_keptWithSign_30 ?_
        refine lv_iload hx hb dX3_keptWithSign_33 (lv_at hl 6 rfl) ?_
        refine va_iald hx hb hK hP 3 0 rfl rfl hw.1 dX3_keptWithSign_35 ?_
        have hw := hw.2
        refine kc_i (va_runV (As := [.int (Ra_order y6_16.toNatClampNeg)]) (rest := []) ⟨hx, hb, hml, hown, hts⟩ (k_X1_seenSign l D cy hPl hPl_lesser hPl_greater hPl_axisOf hPl_axisXs hPl_axisYs hPl_axisZs hPl_axisSquares hPl_poleSigns hPo np nq Pl_poleCount Pl_pairCount Pl_lesser Pl_greater Pl_axisOf Pl_axisXs Pl_axisYs Pl_axisZs Pl_axisSquares Pl_axisCount w1 (Ra_order y6_16.toNatClampNeg) _ _ hw) (cwV 1 hts (gV mw_16_2 mw_16_3 mw_16_4 mw_2_3 mw_16_5) rfl rfl rfl (by decide +kernel) ⟨Nat.le_of_ble_eq_true rfl, Nat.le_of_ble_eq_true rfl⟩) (fPreV hN hK hP hD [1] rfl rfl 7 (ci := 1) rfl rfl rfl _) rfl rfl hl.1 rfl (lv_room (Nat.le_of_ble_eq_true rfl)) dX3_keptWithSign_36 ⟨Nat.zero_le _, Nat.zero_le _⟩) (fun r1_16 hw => ?_)
        refine lv_iload hx hb dX3_keptWithSign_39 (lv_at hl 4 rfl) ?_
        refine lv_icmp_ne (tgt := 47) hx hb dX3_keptWithSign_41 (by decide) (fun c2_16 => ?_) (fun c2_16 => ?_)
        · have hw := hw.2 c2_16
          refine lv_iinc (v := y6_16 + 1) (lv' := [(6, .int (y6_16 + 1)), (0, .ref hRa), (1, .int p0), (2, .int p1), (3, .int p2), (4, .int p3), (5, .int y5_16)]) hx hb dX3_keptWithSign_47 hl (k := 6) rfl rfl (by decide) rfl (fun ls hl => ?_)
          refine lv_goto (tgt := 16) hx hb dX3_keptWithSign_50 (by decide) ?_
          exact ih16 y5_16 (y6_16 + 1) _ _ ls hw hP hD hS (lv_sub hl [1, 2, 3, 4, 5, 6, 0] rfl)
        · have hw := hw.1 c2_16
          refine lv_iinc (v := y5_16 + 1) (lv' := [(5, .int (y5_16 + 1)), (0, .ref hRa), (1, .int p0), (2, .int p1), (3, .int p2), (4, .int p3), (6, .int y6_16)]) hx hb dX3_keptWithSign_44 hl (k := 5) rfl rfl (by decide) rfl (fun ls hl => ?_)
          refine lv_iinc (v := y6_16 + 1) (lv' := [(6, .int (y6_16 + 1)), (5, .int (y5_16 + 1)), (0, .ref hRa), (1, .int p0), (2, .int p1), (3, .int p2), (4, .int p3)]) hx hb dX3_keptWithSign_47 hl (k := 6) rfl rfl (by decide) rfl (fun ls hl => ?_)
          refine lv_goto (tgt := 16) hx hb dX3_keptWithSign_50 (by decide) ?_
          exact ih16 (y5_16 + 1) (y6_16 + 1) _ _ ls hw hP hD hS (lv_sub hl [2, 3, 4, 5, 6, 1, 0] rfl)
  refine kl16 _ ?_ n16 0 0 _ _ ls hw hP hD hS (lv_sub hl [2, 3, 4, 5, 6, 1, 0] rfl)
  · intro y5_16 y6_16 H locs ls hw hP hD hS hl
    refine lv_iload hx hb dX3_keptWithSign_53 (lv_at hl 5 rfl) ?_
    exact W.iret (v := y5_16) hx hb hr (fun t ht hW => ⟨⟨y5_16, w1, rfl, hw, ⟨by rw [ht]; exact hP, va_K.moved hW.alike hK, hD⟩⟩, hS.F ht⟩) hS.2.2 dX3_keptWithSign_55
set_option maxHeartbeats 4000000 in
set_option maxRecDepth 100000 in
theorem k_X3_countMisfitsWith (l : Launch) (D : va_G) (cy : Nat → ClassId) (hRa hRa_misfits hRa_nodals hRa_order hRa_places hRa_counted hRa_begins hPl hBu hPl_lesser hPl_greater hPl_axisOf hPl_axisXs hPl_axisYs hPl_axisZs hPl_axisSquares hPl_poleSigns hPo hPo_xs hPo_ys hPo_zs hPo_countUpTo hSt hSt_there hSt_xs hSt_ys hSt_zs hSt_signs hSt_weights ns nn np nq : Nat) (Ra_misfits : Nat → Int32) (Ra_nodals : Nat → Int32) (Ra_order : Nat → Int32) (Ra_places : Nat → Int32) (Ra_keptCount : Int32) (Ra_least : Int32) (Ra_version : Int32) (Ra_counted : Nat → Int32) (Ra_begins : Nat → Int32) (Pl_poleCount : Int32) (Pl_pairCount : Int32) (Pl_lesser : Nat → Int32) (Pl_greater : Nat → Int32) (Pl_axisOf : Nat → Int32) (Pl_axisXs : Nat → Int32) (Pl_axisYs : Nat → Int32) (Pl_axisZs : Nat → Int32) (Pl_axisSquares : Nat → Int32) (Pl_axisCount : Int32) (Pl_poleSigns : Nat → Int32) (Po_xs : Nat → Int32) (Po_ys : Nat → Int32) (Po_zs : Nat → Int32) (Po_countUpTo : Nat → Int32) (Po_count : Int32) (St_there : Nat → Int32) (St_xs : Nat → Int32) (St_ys : Nat → Int32) (St_zs : Nat → Int32) (St_signs : Nat → Int32) (St_weights : Nat → Int32) (p1 : Int32) (p2 : Int32) (sz : Nat) (Q : (Nat → Int32) → (Nat → Int32) → Prop) (hw : wp_X3_countMisfitsWith p1 p2 ns nn np nq Ra_misfits Ra_counted Pl_poleCount Pl_lesser Pl_greater Pl_poleSigns Po_xs Po_ys Po_zs St_xs St_ys St_zs St_signs St_weights Q) : Met l yX3_countMisfitsWith (wA yX3_countMisfitsWith cX3_countMisfitsWith 10 none) { frames := 2, cells := 0, slots := 0, locals := 48 } (kPc [.ref hRa, .ref hSt, .int p1, .int p2] D cy (List.flatten [wRa cy hRa hRa_misfits hRa_nodals hRa_order hRa_places hRa_counted hRa_begins hPl hBu ns nn Ra_misfits Ra_nodals Ra_order Ra_places Ra_keptCount Ra_least Ra_version Ra_counted Ra_begins, wPl cy hPl hPl_lesser hPl_greater hPl_axisOf hPl_axisXs hPl_axisYs hPl_axisZs hPl_axisSquares hPl_poleSigns hPo np nq Pl_poleCount Pl_pairCount Pl_lesser Pl_greater Pl_axisOf Pl_axisXs Pl_axisYs Pl_axisZs Pl_axisSquares Pl_axisCount Pl_poleSigns, wPo cy hPo hPo_xs hPo_ys hPo_zs hPo_countUpTo Po_xs Po_ys Po_zs Po_countUpTo Po_count, wSt cy hSt hSt_there hSt_xs hSt_ys hSt_zs hSt_signs hSt_weights St_there St_xs St_ys St_zs St_signs St_weights]) sz) (va_Qv (fun (u : (Nat → Int32) × (Nat → Int32)) => Q u.1 u.2) (fun u t => kB D cy (va_A (List.flatten [wRa cy hRa hRa_misfits hRa_nodals hRa_order hRa_places hRa_counted hRa_begins hPl hBu ns nn Ra_misfits Ra_nodals Ra_order Ra_places Ra_keptCount Ra_least Ra_version Ra_counted Ra_begins, wPl cy hPl hPl_lesser hPl_greater hPl_axisOf hPl_axisXs hPl_axisYs hPl_axisZs hPl_axisSquares hPl_poleSigns hPo np nq Pl_poleCount Pl_pairCount Pl_lesser Pl_greater Pl_axisOf Pl_axisXs Pl_axisYs Pl_axisZs Pl_axisSquares Pl_axisCount Pl_poleSigns, wPo cy hPo hPo_xs hPo_ys hPo_zs hPo_countUpTo Po_xs Po_ys Po_zs Po_countUpTo Po_count, wSt cy hSt hSt_there hSt_xs hSt_ys hSt_zs hSt_signs hSt_weights St_there St_xs St_ys St_zs St_signs St_weights]) sz) (List.flatten [wRa cy hRa hRa_misfits hRa_nodals hRa_order hRa_places hRa_counted hRa_begins hPl hBu ns nn Ra_misfits Ra_nodals Ra_order Ra_places Ra_keptCount Ra_least Ra_version u.1 Ra_begins, wPl cy hPl hPl_lesser hPl_greater hPl_axisOf hPl_axisXs hPl_axisYs hPl_axisZs hPl_axisSquares hPl_poleSigns hPo np nq Pl_poleCount Pl_pairCount Pl_lesser Pl_greater Pl_axisOf Pl_axisXs Pl_axisYs Pl_axisZs Pl_axisSquares Pl_axisCount u.2, wPo cy hPo hPo_xs hPo_ys hPo_zs hPo_countUpTo Po_xs Po_ys Po_zs Po_countUpTo Po_count, wSt cy hSt hSt_there hSt_xs hSt_ys hSt_zs hSt_signs hSt_weights St_there St_xs St_ys St_zs St_signs St_weights]) t) (va_A (List.flatten [wRa cy hRa hRa_misfits hRa_nodals hRa_order hRa_places hRa_counted hRa_begins hPl hBu ns nn Ra_misfits Ra_nodals Ra_order Ra_places Ra_keptCount Ra_least Ra_version Ra_counted Ra_begins, wPl cy hPl hPl_lesser hPl_greater hPl_axisOf hPl_axisXs hPl_axisYs hPl_axisZs hPl_axisSquares hPl_poleSigns hPo np nq Pl_poleCount Pl_pairCount Pl_lesser Pl_greater Pl_axisOf Pl_axisXs Pl_axisYs Pl_axisZs Pl_axisSquares Pl_axisCount Pl_poleSigns, wPo cy hPo hPo_xs hPo_ys hPo_zs hPo_countUpTo Po_xs Po_ys Po_zs Po_countUpTo Po_count, wSt cy hSt hSt_there hSt_xs hSt_ys hSt_zs hSt_signs hSt_weights St_there St_xs St_ys St_zs St_signs St_weights]) sz)) 0 0 (va_A (List.flatten [wRa cy hRa hRa_misfits hRa_nodals hRa_order hRa_places hRa_counted hRa_begins hPl hBu ns nn Ra_misfits Ra_nodals Ra_order Ra_places Ra_keptCount Ra_least Ra_version Ra_counted Ra_begins, wPl cy hPl hPl_lesser hPl_greater hPl_axisOf hPl_axisXs hPl_axisYs hPl_axisZs hPl_axisSquares hPl_poleSigns hPo np nq Pl_poleCount Pl_pairCount Pl_lesser Pl_greater Pl_axisOf Pl_axisXs Pl_axisYs Pl_axisZs Pl_axisSquares Pl_axisCount Pl_poleSigns, wPo cy hPo hPo_xs hPo_ys hPo_zs hPo_countUpTo Po_xs Po_ys Po_zs Po_countUpTo Po_count, wSt cy hSt hSt_there hSt_xs hSt_ys hSt_zs hSt_signs hSt_weights St_there St_xs St_ys St_zs St_signs St_weights]) sz) := by
  refine Met.ofW (cc := cX3_countMisfitsWith) (maxL := 10) (ret := none) (by decide) rfl ?_
  intro p e s m args below meth c s₁ B hml hv
  obtain ⟨rfl, hsz, hN, hP, hK, hD0⟩ := hv
  have hx := B.exec
  have hb := B.bytes
  have hr := B.returns
  have hts0 := atoms_spec (ws := wA yX3_countMisfitsWith cX3_countMisfitsWith 10 none) B.pre
  have hts := fun w (h : w ∈ wsL_law) => hts0 w (List.mem_cons_of_mem _ h)
  have hown : s.vm.findClass RX3 = some m.cls := findClass_of_methodNamed B.named
  have hlocks := B.notSynchronized
  subst hsz
  have hD := hD0.self (sz := s.heap.size)
  generalize hAe : va_A (List.flatten [wRa cy hRa hRa_misfits hRa_nodals hRa_order hRa_places hRa_counted hRa_begins hPl hBu ns nn Ra_misfits Ra_nodals Ra_order Ra_places Ra_keptCount Ra_least Ra_version Ra_counted Ra_begins, wPl cy hPl hPl_lesser hPl_greater hPl_axisOf hPl_axisXs hPl_axisYs hPl_axisZs hPl_axisSquares hPl_poleSigns hPo np nq Pl_poleCount Pl_pairCount Pl_lesser Pl_greater Pl_axisOf Pl_axisXs Pl_axisYs Pl_axisZs Pl_axisSquares Pl_axisCount Pl_poleSigns, wPo cy hPo hPo_xs hPo_ys hPo_zs hPo_countUpTo Po_xs Po_ys Po_zs Po_countUpTo Po_count, wSt cy hSt hSt_there hSt_xs hSt_ys hSt_zs hSt_signs hSt_weights St_there St_xs St_ys St_zs St_signs St_weights]) s.heap.size = A at hD ⊢
  have hA : ∀ q : Nat, s.heap.size ≤ q → A q := fun q h => by rw [← hAe]; exact Or.inr h
  have hS : va_S A s.heap s.heap [] := va_S.rf
  have hP : va_P D vwCl (List.flatten [wRa cy hRa hRa_misfits hRa_nodals hRa_order hRa_places hRa_counted hRa_begins hPl hBu ns nn Ra_misfits Ra_nodals Ra_order Ra_places Ra_keptCount Ra_least Ra_version Ra_counted Ra_begins, wPl cy hPl hPl_lesser hPl_greater hPl_axisOf hPl_axisXs hPl_axisYs hPl_axisZs hPl_axisSquares hPl_poleSigns hPo np nq Pl_poleCount Pl_pairCount Pl_lesser Pl_greater Pl_axisOf Pl_axisXs Pl_axisYs Pl_axisZs Pl_axisSquares Pl_axisCount Pl_poleSigns, wPo cy hPo hPo_xs hPo_ys hPo_zs hPo_countUpTo Po_xs Po_ys Po_zs Po_countUpTo Po_count, wSt cy hSt hSt_there hSt_xs hSt_ys hSt_zs hSt_signs hSt_weights St_there St_xs St_ys St_zs St_signs St_weights]) s.heap := hP
  have hl := lv_entry ([.ref hRa, .ref hSt, .int p1, .int p2]) (n := 10) (Nat.le_of_ble_eq_true rfl)
  rw [lg_entry_eq]
  generalize (lg_sl ([.ref hRa, .ref hSt, .int p1, .int p2]) ++ List.replicate (10 - (lg_sl ([.ref hRa, .ref hSt, .int p1, .int p2])).length) Slot.unset).toArray = ls at hl ⊢
  have hl : lv_has ls 10 [(0, .ref hRa), (1, .ref hSt), (2, .int p1), (3, .int p2)] := hl
  unfold wp_X3_countMisfitsWith at hw
  refine lv_aload_n hx hb dX3_countMisfitsWith_0 rfl (lv_at hl 0 rfl) ?_
  refine va_get (D := D) (ci := 3) (v := .ref hPl) (C := RX3) (T := TX3) (N := 11) hx hb hts inlX3 hown hK hP 0 rfl rfl 0 (by decide) (hts (.fieldLink RX3 22 "SquarePlanes$Ranking" "planes" "LSquarePlanes$Planes;") mw_6_2) (fun _ h9 => h9) rfl dX3_countMisfitsWith_1 ?_
  refine lv_aload_n hx hb dX3_countMisfitsWith_4 rfl (lv_at hl 1 rfl) ?_
  refine va_get (D := D) (ci := 4) (v := .ref hSt_xs) (C := RX4) (T := TX4) (N := 6) hx hb hts inlX4 hown hK hP 21 rfl rfl 1 (by decide) (hts (.fieldLink RX3 88 "SquarePlanes$Stations" "xs" "[I") mw_14_13) (fun _ h9 => h9) rfl dX3_countMisfitsWith_5 ?_
  refine lv_iload_n hx hb dX3_countMisfitsWith_8 rfl (lv_at hl 2 rfl) ?_
  refine va_iald hx hb hK hP 23 0 rfl rfl hw.1 dX3_countMisfitsWith_9 ?_
  have hw := hw.2
  refine lv_aload_n hx hb dX3_countMisfitsWith_10 rfl (lv_at hl 1 rfl) ?_
  refine va_get (D := D) (ci := 4) (v := .ref hSt_ys) (C := RX4) (T := TX4) (N := 6) hx hb hts inlX4 hown hK hP 21 rfl rfl 2 (by decide) (hts (.fieldLink RX3 91 "SquarePlanes$Stations" "ys" "[I") mw_14_14) (fun _ h9 => h9) rfl dX3_countMisfitsWith_11 ?_
  refine lv_iload_n hx hb dX3_countMisfitsWith_14 rfl (lv_at hl 2 rfl) ?_
  refine va_iald hx hb hK hP 24 0 rfl rfl hw.1 dX3_countMisfitsWith_15 ?_
  have hw := hw.2
  refine lv_aload_n hx hb dX3_countMisfitsWith_16 rfl (lv_at hl 1 rfl) ?_
  refine va_get (D := D) (ci := 4) (v := .ref hSt_zs) (C := RX4) (T := TX4) (N := 6) hx hb hts inlX4 hown hK hP 21 rfl rfl 3 (by decide) (hts (.fieldLink RX3 94 "SquarePlanes$Stations" "zs" "[I") mw_14_15) (fun _ h9 => h9) rfl dX3_countMisfitsWith_17 ?_
  refine lv_iload_n hx hb dX3_countMisfitsWith_20 rfl (lv_at hl 2 rfl) ?_
  refine va_iald hx hb hK hP 25 0 rfl rfl hw.1 dX3_countMisfitsWith_21 ?_
  have hw := hw.2
  refine fd_v [1, 2] [0, 3] hP hD hS hA rfl rfl rfl (by decide) (va_runV (As := [.int (St_xs p1.toNatClampNeg), .int (St_ys p1.toNatClampNeg), .int (St_zs p1.toNatClampNeg)]) (rest := []) ⟨hx, hb, hml, hown, hts⟩ (k_X1_lookAlong l D cy hPl hPl_lesser hPl_greater hPl_axisOf hPl_axisXs hPl_axisYs hPl_axisZs hPl_axisSquares hPl_poleSigns hPo hPo_xs hPo_ys hPo_zs hPo_countUpTo np nq Pl_poleCount Pl_pairCount Pl_lesser Pl_greater Pl_axisOf Pl_axisXs Pl_axisYs Pl_axisZs Pl_axisSquares Pl_axisCount Pl_poleSigns Po_xs Po_ys Po_zs Po_countUpTo Po_count (St_xs p1.toNatClampNeg) (St_ys p1.toNatClampNeg) (St_zs p1.toNatClampNeg) _ _ hw) (cwV 3 hts (gV mw_14_18 mw_14_19 mw_14_20 mw_2_3 mw_14_21) rfl rfl rfl (by decide +kernel) ⟨Nat.le_of_ble_eq_true rfl, Nat.le_of_ble_eq_true rfl⟩) (fPreV hN hK hP hD [1, 2] rfl rfl 7 (ci := 1) rfl rfl rfl _) rfl rfl hl.1 rfl (lv_room (Nat.le_of_ble_eq_true rfl)) dX3_countMisfitsWith_22 ⟨Nat.zero_le _, Nat.zero_le _⟩) (fun u H locs hw hP hD hS => ?_)
  obtain ⟨w1, rfl⟩ : ∃ z, z = u := ⟨_, rfl⟩
  try dsimp only at hw
  have hP : va_P D vwCl (List.flatten [wRa cy hRa hRa_misfits hRa_nodals hRa_order hRa_places hRa_counted hRa_begins hPl hBu ns nn Ra_misfits Ra_nodals Ra_order Ra_places Ra_keptCount Ra_least Ra_version Ra_counted Ra_begins, wPl cy hPl hPl_lesser hPl_greater hPl_axisOf hPl_axisXs hPl_axisYs hPl_axisZs hPl_axisSquares hPl_poleSigns hPo np nq Pl_poleCount Pl_pairCount Pl_lesser Pl_greater Pl_axisOf Pl_axisXs Pl_axisYs Pl_axisZs Pl_axisSquares Pl_axisCount w1, wPo cy hPo hPo_xs hPo_ys hPo_zs hPo_countUpTo Po_xs Po_ys Po_zs Po_countUpTo Po_count, wSt cy hSt hSt_there hSt_xs hSt_ys hSt_zs hSt_signs hSt_weights St_there St_xs St_ys St_zs St_signs St_weights]) H := fl_P hP [0, 2, 3, 1] rfl
  have hD : va_D A (List.flatten [wRa cy hRa hRa_misfits hRa_nodals hRa_order hRa_places hRa_counted hRa_begins hPl hBu ns nn Ra_misfits Ra_nodals Ra_order Ra_places Ra_keptCount Ra_least Ra_version Ra_counted Ra_begins, wPl cy hPl hPl_lesser hPl_greater hPl_axisOf hPl_axisXs hPl_axisYs hPl_axisZs hPl_axisSquares hPl_poleSigns hPo np nq Pl_poleCount Pl_pairCount Pl_lesser Pl_greater Pl_axisOf Pl_axisXs Pl_axisYs Pl_axisZs Pl_axisSquares Pl_axisCount w1, wPo cy hPo hPo_xs hPo_ys hPo_zs hPo_countUpTo Po_xs Po_ys Po_zs Po_countUpTo Po_count, wSt cy hSt hSt_there hSt_xs hSt_ys hSt_zs hSt_signs hSt_weights St_there St_xs St_ys St_zs St_signs St_weights]) := fl_D hD [0, 2, 3, 1] rfl rfl
  refine lv_aload_n hx hb dX3_countMisfitsWith_25 rfl (lv_at hl 1 rfl) ?_
  refine va_get (D := D) (ci := 4) (v := .ref hSt_weights) (C := RX4) (T := TX4) (N := 6) hx hb hts inlX4 hown hK hP 21 rfl rfl 5 (by decide) (hts (.fieldLink RX3 101 "SquarePlanes$Stations" "weights" "[I") mw_14_16) (fun _ h9 => h9) rfl dX3_countMisfitsWith_26 ?_
  refine lv_iload_n hx hb dX3_countMisfitsWith_29 rfl (lv_at hl 2 rfl) ?_
  refine va_iald hx hb hK hP 27 0 rfl rfl hw.1 dX3_countMisfitsWith_30 ?_
  have hw := hw.2
  refine lv_topi (fun x2 ex2 => ?_)
  have hw := hw x2 ex2
  refine lv_istore (lv' := [(4, .int x2), (0, .ref hRa), (1, .ref hSt), (2, .int p1), (3, .int p2)]) hx hb dX3_countMisfitsWith_31 hl (by decide) rfl (fun ls hl => ?_)
  refine lv_aload_n hx hb dX3_countMisfitsWith_33 rfl (lv_at hl 1 rfl) ?_
  refine va_get (D := D) (ci := 3) (v := .ref hRa_counted) (C := RX3) (T := TX3) (N := 11) hx hb hts inlX3 hown hK hP 0 rfl rfl 9 (by decide) (hts (.fieldLink RX3 15 "SquarePlanes$Ranking" "counted" "[I") mw_6_0) (fun _ h9 => h9) rfl dX3_countMisfitsWith_34 ?_
  refine lv_iconst (v := 0) hx hb dX3_countMisfitsWith_37 (by decide) ?_
  refine kd_v [5] [0, 1, 2, 3, 4, 6, 7, 8, 9, 10, 11, 12, 13, 14, 15, 16, 17, 18, 19, 20, 21, 22, 23, 24, 25, 26, 27] hP hD hS hA rfl rfl rfl (by decide) (va_runS (As := [.ref hRa_counted, .int (0)]) (rest := []) ⟨hx, hb, hml, hown, hts⟩ (k_J7_fill_53178 l D cy hRa_counted 97 Ra_counted (0 : Int32) _ _ hw) (va_cwS 2 hts (gS mw_14_1 mw_14_2 mw_14_3 mw_14_4) rfl rfl rfl (by decide +kernel) ⟨Nat.le_of_ble_eq_true rfl, Nat.le_of_ble_eq_true rfl⟩) (kPre hN hK hP hD [5] rfl rfl _) rfl rfl hl.1 rfl (lv_room (Nat.le_of_ble_eq_true rfl)) dX3_countMisfitsWith_38 ⟨Nat.zero_le _, Nat.zero_le _⟩) (fun u H locs hw hP hD hS => ?_)
  obtain ⟨w3, rfl⟩ : ∃ z, z = u := ⟨_, rfl⟩
  try dsimp only at hw
  have hP : va_P D vwCl (List.flatten [wRa cy hRa hRa_misfits hRa_nodals hRa_order hRa_places hRa_counted hRa_begins hPl hBu ns nn Ra_misfits Ra_nodals Ra_order Ra_places Ra_keptCount Ra_least Ra_version w3 Ra_begins, wPl cy hPl hPl_lesser hPl_greater hPl_axisOf hPl_axisXs hPl_axisYs hPl_axisZs hPl_axisSquares hPl_poleSigns hPo np nq Pl_poleCount Pl_pairCount Pl_lesser Pl_greater Pl_axisOf Pl_axisXs Pl_axisYs Pl_axisZs Pl_axisSquares Pl_axisCount w1, wPo cy hPo hPo_xs hPo_ys hPo_zs hPo_countUpTo Po_xs Po_ys Po_zs Po_countUpTo Po_count, wSt cy hSt hSt_there hSt_xs hSt_ys hSt_zs hSt_signs hSt_weights St_there St_xs St_ys St_zs St_signs St_weights]) H := hP.sub [0, 1, 2, 3, 4, 27, 5, 6, 7, 8, 9, 10, 11, 12, 13, 14, 15, 16, 17, 18, 19, 20, 21, 22, 23, 24, 25, 26] rfl
  have hD : va_D A (List.flatten [wRa cy hRa hRa_misfits hRa_nodals hRa_order hRa_places hRa_counted hRa_begins hPl hBu ns nn Ra_misfits Ra_nodals Ra_order Ra_places Ra_keptCount Ra_least Ra_version w3 Ra_begins, wPl cy hPl hPl_lesser hPl_greater hPl_axisOf hPl_axisXs hPl_axisYs hPl_axisZs hPl_axisSquares hPl_poleSigns hPo np nq Pl_poleCount Pl_pairCount Pl_lesser Pl_greater Pl_axisOf Pl_axisXs Pl_axisYs Pl_axisZs Pl_axisSquares Pl_axisCount w1, wPo cy hPo hPo_xs hPo_ys hPo_zs hPo_countUpTo Po_xs Po_ys Po_zs Po_countUpTo Po_count, wSt cy hSt hSt_there hSt_xs hSt_ys hSt_zs hSt_signs hSt_weights St_there St_xs St_ys St_zs St_signs St_weights]) := hD.sub [0, 1, 2, 3, 4, 27, 5, 6, 7, 8, 9, 10, 11, 12, 13, 14, 15, 16, 17, 18, 19, 20, 21, 22, 23, 24, 25, 26] rfl rfl
  refine lv_iconst (v := 0) hx hb dX3_countMisfitsWith_41 (by decide) ?_
  refine lv_istore (lv' := [(5, .int 0), (4, .int x2), (0, .ref hRa), (1, .ref hSt), (2, .int p1), (3, .int p2)]) hx hb dX3_countMisfitsWith_42 hl (by decide) rfl (fun ls hl => ?_)
  obtain ⟨n44, hw⟩ := hw
  have kl44 : ∀ (K44_144 : Int32 → (Nat → Int32) → Prop) (hk44_144 : ∀ (y5_44 : Int32) (Ra_counted_v_44 : Nat → Int32) (H : Heap) (locs : List Loc) (ls : Array Slot), K44_144 y5_44 Ra_counted_v_44 → va_P D vwCl (List.flatten [wRa cy hRa hRa_misfits hRa_nodals hRa_order hRa_places hRa_counted hRa_begins hPl hBu ns nn Ra_misfits Ra_nodals Ra_order Ra_places Ra_keptCount Ra_least Ra_version Ra_counted_v_44 Ra_begins, wPl cy hPl hPl_lesser hPl_greater hPl_axisOf hPl_axisXs hPl_axisYs hPl_axisZs hPl_axisSquares hPl_poleSigns hPo np nq Pl_poleCount Pl_pairCount Pl_lesser Pl_greater Pl_axisOf Pl_axisXs Pl_axisYs Pl_axisZs Pl_axisSquares Pl_axisCount w1, wPo cy hPo hPo_xs hPo_ys hPo_zs hPo_countUpTo Po_xs Po_ys Po_zs Po_countUpTo Po_count, wSt cy hSt hSt_there hSt_xs hSt_ys hSt_zs hSt_signs hSt_weights St_there St_xs St_ys St_zs St_signs St_weights]) H → va_D A (List.flatten [wRa cy hRa hRa_misfits hRa_nodals hRa_order hRa_places hRa_counted hRa_begins hPl hBu ns nn Ra_misfits Ra_nodals Ra_order Ra_places Ra_keptCount Ra_least Ra_version Ra_counted_v_44 Ra_begins, wPl cy hPl hPl_lesser hPl_greater hPl_axisOf hPl_axisXs hPl_axisYs hPl_axisZs hPl_axisSquares hPl_poleSigns hPo np nq Pl_poleCount Pl_pairCount Pl_lesser Pl_greater Pl_axisOf Pl_axisXs Pl_axisYs Pl_axisZs Pl_axisSquares Pl_axisCount w1, wPo cy hPo hPo_xs hPo_ys hPo_zs hPo_countUpTo Po_xs Po_ys Po_zs Po_countUpTo Po_count, wSt cy hSt hSt_there hSt_xs hSt_ys hSt_zs hSt_signs hSt_weights St_there St_xs St_ys St_zs St_signs St_weights]) → va_S A s.heap H locs → lv_has ls 10 [(0, .ref hRa), (1, .ref hSt), (2, .int p1), (3, .int p2), (4, .int x2), (5, .int y5_44)] → W p l e (headSpec (wA yX3_countMisfitsWith cX3_countMisfitsWith 10 none) { frames := 2, cells := 0, slots := 0, locals := 48 }).room s m #[.ref hRa, .ref hSt, .int p1, .int p2] below meth c H locs 0 0 (MQ below (va_Qv (fun (u : (Nat → Int32) × (Nat → Int32)) => Q u.1 u.2) (fun u t => kB D cy A (List.flatten [wRa cy hRa hRa_misfits hRa_nodals hRa_order hRa_places hRa_counted hRa_begins hPl hBu ns nn Ra_misfits Ra_nodals Ra_order Ra_places Ra_keptCount Ra_least Ra_version u.1 Ra_begins, wPl cy hPl hPl_lesser hPl_greater hPl_axisOf hPl_axisXs hPl_axisYs hPl_axisZs hPl_axisSquares hPl_poleSigns hPo np nq Pl_poleCount Pl_pairCount Pl_lesser Pl_greater Pl_axisOf Pl_axisXs Pl_axisYs Pl_axisZs Pl_axisSquares Pl_axisCount u.2, wPo cy hPo hPo_xs hPo_ys hPo_zs hPo_countUpTo Po_xs Po_ys Po_zs Po_countUpTo Po_count, wSt cy hSt hSt_there hSt_xs hSt_ys hSt_zs hSt_signs hSt_weights St_there St_xs St_ys St_zs St_signs St_weights]) t) A) #[.ref hRa, .ref hSt, .int p1, .int p2] s 0 0 A) (F0 m 144 ls [])) (n : Nat) (y5_44 : Int32) (Ra_counted_v_44 : Nat → Int32) (H : Heap) (locs : List Loc) (ls : Array Slot), wp_X3_countMisfitsWith_L44 p1 p2 ns np nq Ra_misfits Pl_lesser Pl_greater St_signs w1 x2 K44_144 n y5_44 Ra_counted_v_44 → va_P D vwCl (List.flatten [wRa cy hRa hRa_misfits hRa_nodals hRa_order hRa_places hRa_counted hRa_begins hPl hBu ns nn Ra_misfits Ra_nodals Ra_order Ra_places Ra_keptCount Ra_least Ra_version Ra_counted_v_44 Ra_begins, wPl cy hPl hPl_lesser hPl_greater hPl_axisOf hPl_axisXs hPl_axisYs hPl_axisZs hPl_axisSquares hPl_poleSigns hPo np nq Pl_poleCount Pl_pairCount Pl_lesser Pl_greater Pl_axisOf Pl_axisXs Pl_axisYs Pl_axisZs Pl_axisSquares Pl_axisCount w1, wPo cy hPo hPo_xs hPo_ys hPo_zs hPo_countUpTo Po_xs Po_ys Po_zs Po_countUpTo Po_count, wSt cy hSt hSt_there hSt_xs hSt_ys hSt_zs hSt_signs hSt_weights St_there St_xs St_ys St_zs St_signs St_weights]) H → va_D A (List.flatten [wRa cy hRa hRa_misfits hRa_nodals hRa_order hRa_places hRa_counted hRa_begins hPl hBu ns nn Ra_misfits Ra_nodals Ra_order Ra_places Ra_keptCount Ra_least Ra_version Ra_counted_v_44 Ra_begins, wPl cy hPl hPl_lesser hPl_greater hPl_axisOf hPl_axisXs hPl_axisYs hPl_axisZs hPl_axisSquares hPl_poleSigns hPo np nq Pl_poleCount Pl_pairCount Pl_lesser Pl_greater Pl_axisOf Pl_axisXs Pl_axisYs Pl_axisZs Pl_axisSquares Pl_axisCount w1, wPo cy hPo hPo_xs hPo_ys hPo_zs hPo_countUpTo Po_xs Po_ys Po_zs Po_countUpTo Po_count, wSt cy hSt hSt_there hSt_xs hSt_ys hSt_zs hSt_signs hSt_weights St_there St_xs St_ys St_zs St_signs St_weights]) → va_S A s.heap H locs → lv_has ls 10 [(0, .ref hRa), (1, .ref hSt), (2, .int p1), (3, .int p2), (4, .int x2), (5, .int y5_44)] → W p l e (headSpec (wA yX3_countMisfitsWith cX3_countMisfitsWith 10 none) { frames := 2, cells := 0, slots := 0, locals := 48 }).room s m #[.ref hRa, .ref hSt, .int p1, .int p2] below meth c H locs 0 0 (MQ below (va_Qv (fun (u : (Nat → Int32) × (Nat → Int32)) => Q u.1 u.2) (fun u t => kB D cy A (List.flatten [wRa cy hRa hRa_misfits hRa_nodals hRa_order hRa_places hRa_counted hRa_begins hPl hBu ns nn Ra_misfits Ra_nodals Ra_order Ra_places Ra_keptCount Ra_least Ra_version u.1 Ra_begins, wPl cy hPl hPl_lesser hPl_greater hPl_axisOf hPl_axisXs hPl_axisYs hPl_axisZs hPl_axisSquares hPl_poleSigns hPo np nq Pl_poleCount Pl_pairCount Pl_lesser Pl_greater Pl_axisOf Pl_axisXs Pl_axisYs Pl_axisZs Pl_axisSquares Pl_axisCount u.2, wPo cy hPo hPo_xs hPo_ys hPo_zs hPo_countUpTo Po_xs Po_ys Po_zs Po_countUpTo Po_count, wSt cy hSt hSt_there hSt_xs hSt_ys hSt_zs hSt_signs hSt_weights St_there St_xs St_ys St_zs St_signs St_weights]) t) A) #[.ref hRa, .ref hSt, .int p1, .int p2] s 0 0 A) (F0 m 44 ls []) := by
    intro K44_144 hk44_144 n
    induction n with
    | zero =>
      intro y5_44 Ra_counted_v_44 H locs ls hw
      exact hw.elim
    | succ n ih44 =>
      intro y5_44 Ra_counted_v_44 H locs ls hw hP hD hS hl
      unfold wp_X3_countMisfitsWith_L44 at hw
      refine lv_iload hx hb dX3_countMisfitsWith_44 (lv_at hl 5 rfl) ?_
      refine lv_aload_n hx hb dX3_countMisfitsWith_46 rfl (lv_at hl 0 rfl) ?_
      refine va_get (D := D) (ci := 3) (v := .ref hRa_misfits) (C := RX3) (T := TX3) (N := 11) hx hb hts inlX3 hown hK hP 0 rfl rfl 2 (by decide) (hts (.fieldLink RX3 41 "SquarePlanes$Ranking" "misfits" "[I") mw_6_7) (fun _ h9 => h9) rfl dX3_countMisfitsWith_47 ?_
      refine va_alen hx hb hK hP 1 0 rfl rfl rfl dX3_countMisfitsWith_50 ?_
      refine lv_icmp_ge (tgt := 144) hx hb dX3_countMisfitsWith_51 (by decide) (fun c21_44 => ?_) (fun c21_44 => ?_)
      · have hw := hw.1 c21_44
        exact hk44_144 y5_44 Ra_counted_v_44 _ _ ls hw hP hD hS (lv_sub hl [0, 1, 2, 3, 4, 5] rfl)
      · have hw := hw.2 c21_44
        refine lv_aload_n hx hb dX3_countMisfitsWith_54 rfl (lv_at hl 0 rfl) ?_
        refine va_get (D := D) (ci := 3) (v := .ref hPl) (C := RX3) (T := TX3) (N := 11) hx hb hts inlX3 hown hK hP 0 rfl rfl 0 (by decide) (hts (.fieldLink RX3 22 "SquarePlanes$Ranking" "planes" "LSquarePlanes$Planes;") mw_6_2) (fun _ h9 => h9) rfl dX3_countMisfitsWith_55 ?_
        refine lv_iload hx hb dX3_countMisfitsWith_58 (lv_at hl 5 rfl) ?_
        refine kc_i (va_runV (As := [.int y5_44]) (rest := []) ⟨hx, hb, hml, hown, hts⟩ (k_X1_seenSign l D cy hPl hPl_lesser hPl_greater hPl_axisOf hPl_axisXs hPl_axisYs hPl_axisZs hPl_axisSquares hPl_poleSigns hPo np nq Pl_poleCount Pl_pairCount Pl_lesser Pl_greater Pl_axisOf Pl_axisXs Pl_axisYs Pl_axisZs Pl_axisSquares Pl_axisCount w1 y5_44 _ _ hw) (cwV 1 hts (gV mw_16_2 mw_16_3 mw_16_4 mw_2_3 mw_16_5) rfl rfl rfl (by decide +kernel) ⟨Nat.le_of_ble_eq_true rfl, Nat.le_of_ble_eq_true rfl⟩) (fPreV hN hK hP hD [1] rfl rfl 7 (ci := 1) rfl rfl rfl _) rfl rfl hl.1 rfl (lv_room (Nat.le_of_ble_eq_true rfl)) dX3_countMisfitsWith_60 ⟨Nat.zero_le _, Nat.zero_le _⟩) (fun r1_44 hw => ?_)
        refine lv_istore (lv' := [(6, .int r1_44), (0, .ref hRa), (1, .ref hSt), (2, .int p1), (3, .int p2), (4, .int x2), (5, .int y5_44)]) hx hb dX3_countMisfitsWith_63 hl (by decide) rfl (fun ls hl => ?_)
        refine lv_iload hx hb dX3_countMisfitsWith_65 (lv_at hl 0 rfl) ?_
        refine lv_aload_n hx hb dX3_countMisfitsWith_67 rfl (lv_at hl 2 rfl) ?_
        refine va_get (D := D) (ci := 4) (v := .ref hSt_signs) (C := RX4) (T := TX4) (N := 6) hx hb hts inlX4 hown hK hP 21 rfl rfl 4 (by decide) (hts (.fieldLink RX3 104 "SquarePlanes$Stations" "signs" "[I") mw_14_17) (fun _ h9 => h9) rfl dX3_countMisfitsWith_68 ?_
        refine lv_iload_n hx hb dX3_countMisfitsWith_71 rfl (lv_at hl 3 rfl) ?_
        refine va_iald hx hb hK hP 26 0 rfl rfl hw.1 dX3_countMisfitsWith_72 ?_
        have hw := hw.2
        refine lv_imul hx hb dX3_countMisfitsWith_73 ?_
        refine lv_if_ge (tgt := 82) hx hb dX3_countMisfitsWith_74 (by decide) (fun c20_44 => ?_) (fun c20_44 => ?_)
        · have hw := hw.1 c20_44
          refine lv_iconst (v := 0) hx hb dX3_countMisfitsWith_82 (by decide) ?_
          refine lv_istore (lv' := [(7, .int 0), (6, .int r1_44), (0, .ref hRa), (1, .ref hSt), (2, .int p1), (3, .int p2), (4, .int x2), (5, .int y5_44)]) hx hb dX3_countMisfitsWith_83 hl (by decide) rfl (fun ls hl => ?_)
          refine lv_iload hx hb dX3_countMisfitsWith_85 (lv_at hl 1 rfl) ?_
          refine lv_iload_n hx hb dX3_countMisfitsWith_87 rfl (lv_at hl 5 rfl) ?_
          refine lv_imul hx hb dX3_countMisfitsWith_88 ?_
          refine lv_if_ge (tgt := 97) hx hb dX3_countMisfitsWith_89 (by decide) (fun c10_44 => ?_) (fun c10_44 => ?_)
          · have hw := hw.1 c10_44
            refine lv_iconst (v := 0) hx hb dX3_countMisfitsWith_97 (by decide) ?_
            refine lv_istore (lv' := [(8, .int 0), (7, .int 0), (6, .int r1_44), (0, .ref hRa), (1, .ref hSt), (2, .int p1), (3, .int p2), (4, .int x2), (5, .int y5_44)]) hx hb dX3_countMisfitsWith_98 hl (by decide) rfl (fun ls hl => ?_)
            refine lv_aload_n hx hb dX3_countMisfitsWith_100 rfl (lv_at hl 3 rfl) ?_
            refine va_get (D := D) (ci := 3) (v := .ref hRa_misfits) (C := RX3) (T := TX3) (N := 11) hx hb hts inlX3 hown hK hP 0 rfl rfl 2 (by decide) (hts (.fieldLink RX3 41 "SquarePlanes$Ranking" "misfits" "[I") mw_6_7) (fun _ h9 => h9) rfl dX3_countMisfitsWith_101 ?_
            refine lv_iload hx hb dX3_countMisfitsWith_104 (lv_at hl 8 rfl) ?_
            refine va_iald hx hb hK hP 1 0 rfl rfl hw.1 dX3_countMisfitsWith_106 ?_
            have hw := hw.2
            refine lv_iload hx hb dX3_countMisfitsWith_107 (lv_at hl 1 rfl) ?_
            refine lv_isub hx hb dX3_countMisfitsWith_109 ?_
            refine lv_iload hx hb dX3_countMisfitsWith_110 (lv_at hl 0 rfl) ?_
            refine lv_iadd hx hb dX3_countMisfitsWith_112 ?_
            refine lv_topi (fun x2_44 ex2_44 => ?_)
            have hw := hw x2_44 ex2_44
            refine lv_istore (lv' := [(9, .int x2_44), (8, .int 0), (7, .int 0), (6, .int r1_44), (0, .ref hRa), (1, .ref hSt), (2, .int p1), (3, .int p2), (4, .int x2), (5, .int y5_44)]) hx hb dX3_countMisfitsWith_113 hl (by decide) rfl (fun ls hl => ?_)
            refine lv_iload hx hb dX3_countMisfitsWith_115 (lv_at hl 0 rfl) ?_
            refine lv_if_lt (tgt := 138) hx hb dX3_countMisfitsWith_117 (by decide) (fun c5_44 => ?_) (fun c5_44 => ?_)
            · have hw := hw.1 c5_44
              refine lv_iinc (v := y5_44 + 1) (lv' := [(5, .int (y5_44 + 1)), (9, .int x2_44), (8, .int 0), (7, .int 0), (6, .int r1_44), (0, .ref hRa), (1, .ref hSt), (2, .int p1), (3, .int p2), (4, .int x2)]) hx hb dX3_countMisfitsWith_138 hl (k := 9) rfl rfl (by decide) rfl (fun ls hl => ?_)
              refine lv_goto (tgt := 44) hx hb dX3_countMisfitsWith_141 (by decide) ?_
              exact ih44 (y5_44 + 1) Ra_counted_v_44 _ _ ls hw hP hD hS (lv_sub hl [5, 6, 7, 8, 9, 0] rfl)
            · have hw := hw.2 c5_44
              refine lv_iload hx hb dX3_countMisfitsWith_120 (lv_at hl 0 rfl) ?_
              refine lv_bipush (v := 96) hx hb dX3_countMisfitsWith_122 (by decide) ?_
              refine lv_icmp_gt (tgt := 138) hx hb dX3_countMisfitsWith_124 (by decide) (fun c4_44 => ?_) (fun c4_44 => ?_)
              · have hw := hw.1 c4_44
                refine lv_iinc (v := y5_44 + 1) (lv' := [(5, .int (y5_44 + 1)), (9, .int x2_44), (8, .int 0), (7, .int 0), (6, .int r1_44), (0, .ref hRa), (1, .ref hSt), (2, .int p1), (3, .int p2), (4, .int x2)]) hx hb dX3_countMisfitsWith_138 hl (k := 9) rfl rfl (by decide) rfl (fun ls hl => ?_)
                refine lv_goto (tgt := 44) hx hb dX3_countMisfitsWith_141 (by decide) ?_
                exact ih44 (y5_44 + 1) Ra_counted_v_44 _ _ ls hw hP hD hS (lv_sub hl [5, 6, 7, 8, 9, 0] rfl)
              · have hw := hw.2 c4_44
                refine lv_aload_n hx hb dX3_countMisfitsWith_127 rfl (lv_at hl 4 rfl) ?_
                refine va_get (D := D) (ci := 3) (v := .ref hRa_counted) (C := RX3) (T := TX3) (N := 11) hx hb hts inlX3 hown hK hP 0 rfl rfl 9 (by decide) (hts (.fieldLink RX3 15 "SquarePlanes$Ranking" "counted" "[I") mw_6_0) (fun _ h9 => h9) rfl dX3_countMisfitsWith_128 ?_
                refine lv_iload hx hb dX3_countMisfitsWith_131 (lv_at hl 0 rfl) ?_
                refine lv_dup2_11 hx hb dX3_countMisfitsWith_133 rfl rfl ?_
                refine va_iald hx hb hK hP 5 0 rfl rfl hw.1 dX3_countMisfitsWith_134 ?_
                have hw := hw.2
                refine lv_iconst (v := 1) hx hb dX3_countMisfitsWith_135 (by decide) ?_
                refine lv_iadd hx hb dX3_countMisfitsWith_136 ?_
                refine lv_topi (fun x3_44 ex3_44 => ?_)
                have hw := hw x3_44 ex3_44
                refine va_iast hx hb hK hP hD hS 5 0 rfl rfl hw.1 dX3_countMisfitsWith_137 (fun H locs hP hD hS => ?_)
                have hw := hw.2
                have hP : va_P D vwCl (List.flatten [wRa cy hRa hRa_misfits hRa_nodals hRa_order hRa_places hRa_counted hRa_begins hPl hBu ns nn Ra_misfits Ra_nodals Ra_order Ra_places Ra_keptCount Ra_least Ra_version (upd Ra_counted_v_44 x2_44.toNatClampNeg x3_44) Ra_begins, wPl cy hPl hPl_lesser hPl_greater hPl_axisOf hPl_axisXs hPl_axisYs hPl_axisZs hPl_axisSquares hPl_poleSigns hPo np nq Pl_poleCount Pl_pairCount Pl_lesser Pl_greater Pl_axisOf Pl_axisXs Pl_axisYs Pl_axisZs Pl_axisSquares Pl_axisCount w1, wPo cy hPo hPo_xs hPo_ys hPo_zs hPo_countUpTo Po_xs Po_ys Po_zs Po_countUpTo Po_count, wSt cy hSt hSt_there hSt_xs hSt_ys hSt_zs hSt_signs hSt_weights St_there St_xs St_ys St_zs St_signs St_weights]) H := hP
                have hD : va_D A (List.flatten [wRa cy hRa hRa_misfits hRa_nodals hRa_order hRa_places hRa_counted hRa_begins hPl hBu ns nn Ra_misfits Ra_nodals Ra_order Ra_places Ra_keptCount Ra_least Ra_version (upd Ra_counted_v_44 x2_44.toNatClampNeg x3_44) Ra_begins, wPl cy hPl hPl_lesser hPl_greater hPl_axisOf hPl_axisXs hPl_axisYs hPl_axisZs hPl_axisSquares hPl_poleSigns hPo np nq Pl_poleCount Pl_pairCount Pl_lesser Pl_greater Pl_axisOf Pl_axisXs Pl_axisYs Pl_axisZs Pl_axisSquares Pl_axisCount w1, wPo cy hPo hPo_xs hPo_ys hPo_zs hPo_countUpTo Po_xs Po_ys Po_zs Po_countUpTo Po_count, wSt cy hSt hSt_there hSt_xs hSt_ys hSt_zs hSt_signs hSt_weights St_there St_xs St_ys St_zs St_signs St_weights]) := hD
                refine lv_iinc (v := y5_44 + 1) (lv' := [(5, .int (y5_44 + 1)), (9, .int x2_44), (8, .int 0), (7, .int 0), (6, .int r1_44), (0, .ref hRa), (1, .ref hSt), (2, .int p1), (3, .int p2), (4, .int x2)]) hx hb dX3_countMisfitsWith_138 hl (k := 9) rfl rfl (by decide) rfl (fun ls hl => ?_)
                refine lv_goto (tgt := 44) hx hb dX3_countMisfitsWith_141 (by decide) ?_
                exact ih44 (y5_44 + 1) (upd Ra_counted_v_44 x2_44.toNatClampNeg x3_44) _ _ ls hw hP hD hS (lv_sub hl [5, 6, 7, 8, 9, 0] rfl)
          · have hw := hw.2 c10_44
            refine lv_iload hx hb dX3_countMisfitsWith_92 (lv_at hl 6 rfl) ?_
            refine lv_goto (tgt := 98) hx hb dX3_countMisfitsWith_94 (by decide) ?_
            refine lv_istore (lv' := [(8, .int x2), (7, .int 0), (6, .int r1_44), (0, .ref hRa), (1, .ref hSt), (2, .int p1), (3, .int p2), (4, .int x2), (5, .int y5_44)]) hx hb dX3_countMisfitsWith_98 hl (by decide) rfl (fun ls hl => ?_)
            refine lv_aload_n hx hb dX3_countMisfitsWith_100 rfl (lv_at hl 3 rfl) ?_
            refine va_get (D := D) (ci := 3) (v := .ref hRa_misfits) (C := RX3) (T := TX3) (N := 11) hx hb hts inlX3 hown hK hP 0 rfl rfl 2 (by decide) (hts (.fieldLink RX3 41 "SquarePlanes$Ranking" "misfits" "[I") mw_6_7) (fun _ h9 => h9) rfl dX3_countMisfitsWith_101 ?_
            refine lv_iload hx hb dX3_countMisfitsWith_104 (lv_at hl 8 rfl) ?_
            refine va_iald hx hb hK hP 1 0 rfl rfl hw.1 dX3_countMisfitsWith_106 ?_
            have hw := hw.2
            refine lv_iload hx hb dX3_countMisfitsWith_107 (lv_at hl 1 rfl) ?_
            refine lv_isub hx hb dX3_countMisfitsWith_109 ?_
            refine lv_iload hx hb dX3_countMisfitsWith_110 (lv_at hl 0 rfl) ?_
            refine lv_iadd hx hb dX3_countMisfitsWith_112 ?_
            refine lv_topi (fun x6_44 ex6_44 => ?_)
            have hw := hw x6_44 ex6_44
            refine lv_istore (lv' := [(9, .int x6_44), (8, .int x2), (7, .int 0), (6, .int r1_44), (0, .ref hRa), (1, .ref hSt), (2, .int p1), (3, .int p2), (4, .int x2), (5, .int y5_44)]) hx hb dX3_countMisfitsWith_113 hl (by decide) rfl (fun ls hl => ?_)
            refine lv_iload hx hb dX3_countMisfitsWith_115 (lv_at hl 0 rfl) ?_
            refine lv_if_lt (tgt := 138) hx hb dX3_countMisfitsWith_117 (by decide) (fun c9_44 => ?_) (fun c9_44 => ?_)
            · have hw := hw.1 c9_44
              refine lv_iinc (v := y5_44 + 1) (lv' := [(5, .int (y5_44 + 1)), (9, .int x6_44), (8, .int x2), (7, .int 0), (6, .int r1_44), (0, .ref hRa), (1, .ref hSt), (2, .int p1), (3, .int p2), (4, .int x2)]) hx hb dX3_countMisfitsWith_138 hl (k := 9) rfl rfl (by decide) rfl (fun ls hl => ?_)
              refine lv_goto (tgt := 44) hx hb dX3_countMisfitsWith_141 (by decide) ?_
              exact ih44 (y5_44 + 1) Ra_counted_v_44 _ _ ls hw hP hD hS (lv_sub hl [5, 6, 7, 8, 9, 0] rfl)
            · have hw := hw.2 c9_44
              refine lv_iload hx hb dX3_countMisfitsWith_120 (lv_at hl 0 rfl) ?_
              refine lv_bipush (v := 96) hx hb dX3_countMisfitsWith_122 (by decide) ?_
              refine lv_icmp_gt (tgt := 138) hx hb dX3_countMisfitsWith_124 (by decide) (fun c8_44 => ?_) (fun c8_44 => ?_)
              · have hw := hw.1 c8_44
                refine lv_iinc (v := y5_44 + 1) (lv' := [(5, .int (y5_44 + 1)), (9, .int x6_44), (8, .int x2), (7, .int 0), (6, .int r1_44), (0, .ref hRa), (1, .ref hSt), (2, .int p1), (3, .int p2), (4, .int x2)]) hx hb dX3_countMisfitsWith_138 hl (k := 9) rfl rfl (by decide) rfl (fun ls hl => ?_)
                refine lv_goto (tgt := 44) hx hb dX3_countMisfitsWith_141 (by decide) ?_
                exact ih44 (y5_44 + 1) Ra_counted_v_44 _ _ ls hw hP hD hS (lv_sub hl [5, 6, 7, 8, 9, 0] rfl)
              · have hw := hw.2 c8_44
                refine lv_aload_n hx hb dX3_countMisfitsWith_127 rfl (lv_at hl 4 rfl) ?_
                refine va_get (D := D) (ci := 3) (v := .ref hRa_counted) (C := RX3) (T := TX3) (N := 11) hx hb hts inlX3 hown hK hP 0 rfl rfl 9 (by decide) (hts (.fieldLink RX3 15 "SquarePlanes$Ranking" "counted" "[I") mw_6_0) (fun _ h9 => h9) rfl dX3_countMisfitsWith_128 ?_
                refine lv_iload hx hb dX3_countMisfitsWith_131 (lv_at hl 0 rfl) ?_
                refine lv_dup2_11 hx hb dX3_countMisfitsWith_133 rfl rfl ?_
                refine va_iald hx hb hK hP 5 0 rfl rfl hw.1 dX3_countMisfitsWith_134 ?_
                have hw := hw.2
                refine lv_iconst (v := 1) hx hb dX3_countMisfitsWith_135 (by decide) ?_
                refine lv_iadd hx hb dX3_countMisfitsWith_136 ?_
                refine lv_topi (fun x7_44 ex7_44 => ?_)
                have hw := hw x7_44 ex7_44
                refine va_iast hx hb hK hP hD hS 5 0 rfl rfl hw.1 dX3_countMisfitsWith_137 (fun H locs hP hD hS => ?_)
                have hw := hw.2
                have hP : va_P D vwCl (List.flatten [wRa cy hRa hRa_misfits hRa_nodals hRa_order hRa_places hRa_counted hRa_begins hPl hBu ns nn Ra_misfits Ra_nodals Ra_order Ra_places Ra_keptCount Ra_least Ra_version (upd Ra_counted_v_44 x6_44.toNatClampNeg x7_44) Ra_begins, wPl cy hPl hPl_lesser hPl_greater hPl_axisOf hPl_axisXs hPl_axisYs hPl_axisZs hPl_axisSquares hPl_poleSigns hPo np nq Pl_poleCount Pl_pairCount Pl_lesser Pl_greater Pl_axisOf Pl_axisXs Pl_axisYs Pl_axisZs Pl_axisSquares Pl_axisCount w1, wPo cy hPo hPo_xs hPo_ys hPo_zs hPo_countUpTo Po_xs Po_ys Po_zs Po_countUpTo Po_count, wSt cy hSt hSt_there hSt_xs hSt_ys hSt_zs hSt_signs hSt_weights St_there St_xs St_ys St_zs St_signs St_weights]) H := hP
                have hD : va_D A (List.flatten [wRa cy hRa hRa_misfits hRa_nodals hRa_order hRa_places hRa_counted hRa_begins hPl hBu ns nn Ra_misfits Ra_nodals Ra_order Ra_places Ra_keptCount Ra_least Ra_version (upd Ra_counted_v_44 x6_44.toNatClampNeg x7_44) Ra_begins, wPl cy hPl hPl_lesser hPl_greater hPl_axisOf hPl_axisXs hPl_axisYs hPl_axisZs hPl_axisSquares hPl_poleSigns hPo np nq Pl_poleCount Pl_pairCount Pl_lesser Pl_greater Pl_axisOf Pl_axisXs Pl_axisYs Pl_axisZs Pl_axisSquares Pl_axisCount w1, wPo cy hPo hPo_xs hPo_ys hPo_zs hPo_countUpTo Po_xs Po_ys Po_zs Po_countUpTo Po_count, wSt cy hSt hSt_there hSt_xs hSt_ys hSt_zs hSt_signs hSt_weights St_there St_xs St_ys St_zs St_signs St_weights]) := hD
                refine lv_iinc (v := y5_44 + 1) (lv' := [(5, .int (y5_44 + 1)), (9, .int x6_44), (8, .int x2), (7, .int 0), (6, .int r1_44), (0, .ref hRa), (1, .ref hSt), (2, .int p1), (3, .int p2), (4, .int x2)]) hx hb dX3_countMisfitsWith_138 hl (k := 9) rfl rfl (by decide) rfl (fun ls hl => ?_)
                refine lv_goto (tgt := 44) hx hb dX3_countMisfitsWith_141 (by decide) ?_
                exact ih44 (y5_44 + 1) (upd Ra_counted_v_44 x6_44.toNatClampNeg x7_44) _ _ ls hw hP hD hS (lv_sub hl [5, 6, 7, 8, 9, 0] rfl)
        · have hw := hw.2 c20_44
          refine lv_iload hx hb dX3_countMisfitsWith_77 (lv_at hl 5 rfl) ?_
          refine lv_goto (tgt := 83) hx hb dX3_countMisfitsWith_79 (by decide) ?_
          refine lv_istore (lv' := [(7, .int x2), (6, .int r1_44), (0, .ref hRa), (1, .ref hSt), (2, .int p1), (3, .int p2), (4, .int x2), (5, .int y5_44)]) hx hb dX3_countMisfitsWith_83 hl (by decide) rfl (fun ls hl => ?_)
          refine lv_iload hx hb dX3_countMisfitsWith_85 (lv_at hl 1 rfl) ?_
          refine lv_iload_n hx hb dX3_countMisfitsWith_87 rfl (lv_at hl 5 rfl) ?_
          refine lv_imul hx hb dX3_countMisfitsWith_88 ?_
          refine lv_if_ge (tgt := 97) hx hb dX3_countMisfitsWith_89 (by decide) (fun c19_44 => ?_) (fun c19_44 => ?_)
          · have hw := hw.1 c19_44
            refine lv_iconst (v := 0) hx hb dX3_countMisfitsWith_97 (by decide) ?_
            refine lv_istore (lv' := [(8, .int 0), (7, .int x2), (6, .int r1_44), (0, .ref hRa), (1, .ref hSt), (2, .int p1), (3, .int p2), (4, .int x2), (5, .int y5_44)]) hx hb dX3_countMisfitsWith_98 hl (by decide) rfl (fun ls hl => ?_)
            refine lv_aload_n hx hb dX3_countMisfitsWith_100 rfl (lv_at hl 3 rfl) ?_
            refine va_get (D := D) (ci := 3) (v := .ref hRa_misfits) (C := RX3) (T := TX3) (N := 11) hx hb hts inlX3 hown hK hP 0 rfl rfl 2 (by decide) (hts (.fieldLink RX3 41 "SquarePlanes$Ranking" "misfits" "[I") mw_6_7) (fun _ h9 => h9) rfl dX3_countMisfitsWith_101 ?_
            refine lv_iload hx hb dX3_countMisfitsWith_104 (lv_at hl 8 rfl) ?_
            refine va_iald hx hb hK hP 1 0 rfl rfl hw.1 dX3_countMisfitsWith_106 ?_
            have hw := hw.2
            refine lv_iload hx hb dX3_countMisfitsWith_107 (lv_at hl 1 rfl) ?_
            refine lv_isub hx hb dX3_countMisfitsWith_109 ?_
            refine lv_iload hx hb dX3_countMisfitsWith_110 (lv_at hl 0 rfl) ?_
            refine lv_iadd hx hb dX3_countMisfitsWith_112 ?_
            refine lv_topi (fun x11_44 ex11_44 => ?_)
            have hw := hw x11_44 ex11_44
            refine lv_istore (lv' := [(9, .int x11_44), (8, .int 0), (7, .int x2), (6, .int r1_44), (0, .ref hRa), (1, .ref hSt), (2, .int p1), (3, .int p2), (4, .int x2), (5, .int y5_44)]) hx hb dX3_countMisfitsWith_113 hl (by decide) rfl (fun ls hl => ?_)
            refine lv_iload hx hb dX3_countMisfitsWith_115 (lv_at hl 0 rfl) ?_
            refine lv_if_lt (tgt := 138) hx hb dX3_countMisfitsWith_117 (by decide) (fun c14_44 => ?_) (fun c14_44 => ?_)
            · have hw := hw.1 c14_44
              refine lv_iinc (v := y5_44 + 1) (lv' := [(5, .int (y5_44 + 1)), (9, .int x11_44), (8, .int 0), (7, .int x2), (6, .int r1_44), (0, .ref hRa), (1, .ref hSt), (2, .int p1), (3, .int p2), (4, .int x2)]) hx hb dX3_countMisfitsWith_138 hl (k := 9) rfl rfl (by decide) rfl (fun ls hl => ?_)
              refine lv_goto (tgt := 44) hx hb dX3_countMisfitsWith_141 (by decide) ?_
              exact ih44 (y5_44 + 1) Ra_counted_v_44 _ _ ls hw hP hD hS (lv_sub hl [5, 6, 7, 8, 9, 0] rfl)
            · have hw := hw.2 c14_44
              refine lv_iload hx hb dX3_countMisfitsWith_120 (lv_at hl 0 rfl) ?_
              refine lv_bipush (v := 96) hx hb dX3_countMisfitsWith_122 (by decide) ?_
              refine lv_icmp_gt (tgt := 138) hx hb dX3_countMisfitsWith_124 (by decide) (fun c13_44 => ?_) (fun c13_44 => ?_)
              · have hw := hw.1 c13_44
                refine lv_iinc (v := y5_44 + 1) (lv' := [(5, .int (y5_44 + 1)), (9, .int x11_44), (8, .int 0), (7, .int x2), (6, .int r1_44), (0, .ref hRa), (1, .ref hSt), (2, .int p1), (3, .int p2), (4, .int x2)]) hx hb dX3_countMisfitsWith_138 hl (k := 9) rfl rfl (by decide) rfl (fun ls hl => ?_)
                refine lv_goto (tgt := 44) hx hb dX3_countMisfitsWith_141 (by decide) ?_
                exact ih44 (y5_44 + 1) Ra_counted_v_44 _ _ ls hw hP hD hS (lv_sub hl [5, 6, 7, 8, 9, 0] rfl)
              · have hw := hw.2 c13_44
                refine lv_aload_n hx hb dX3_countMisfitsWith_127 rfl (lv_at hl 4 rfl) ?_
                refine va_get (D := D) (ci := 3) (v := .ref hRa_counted) (C := RX3) (T := TX3) (N := 11) hx hb hts inlX3 hown hK hP 0 rfl rfl 9 (by decide) (hts (.fieldLink RX3 15 "SquarePlanes$Ranking" "counted" "[I") mw_6_0) (fun _ h9 => h9) rfl dX3_countMisfitsWith_128 ?_
                refine lv_iload hx hb dX3_countMisfitsWith_131 (lv_at hl 0 rfl) ?_
                refine lv_dup2_11 hx hb dX3_countMisfitsWith_133 rfl rfl ?_
                refine va_iald hx hb hK hP 5 0 rfl rfl hw.1 dX3_countMisfitsWith_134 ?_
                have hw := hw.2
                refine lv_iconst (v := 1) hx hb dX3_countMisfitsWith_135 (by decide) ?_
                refine lv_iadd hx hb dX3_countMisfitsWith_136 ?_
                refine lv_topi (fun x12_44 ex12_44 => ?_)
                have hw := hw x12_44 ex12_44
                refine va_iast hx hb hK hP hD hS 5 0 rfl rfl hw.1 dX3_countMisfitsWith_137 (fun H locs hP hD hS => ?_)
                have hw := hw.2
                have hP : va_P D vwCl (List.flatten [wRa cy hRa hRa_misfits hRa_nodals hRa_order hRa_places hRa_counted hRa_begins hPl hBu ns nn Ra_misfits Ra_nodals Ra_order Ra_places Ra_keptCount Ra_least Ra_version (upd Ra_counted_v_44 x11_44.toNatClampNeg x12_44) Ra_begins, wPl cy hPl hPl_lesser hPl_greater hPl_axisOf hPl_axisXs hPl_axisYs hPl_axisZs hPl_axisSquares hPl_poleSigns hPo np nq Pl_poleCount Pl_pairCount Pl_lesser Pl_greater Pl_axisOf Pl_axisXs Pl_axisYs Pl_axisZs Pl_axisSquares Pl_axisCount w1, wPo cy hPo hPo_xs hPo_ys hPo_zs hPo_countUpTo Po_xs Po_ys Po_zs Po_countUpTo Po_count, wSt cy hSt hSt_there hSt_xs hSt_ys hSt_zs hSt_signs hSt_weights St_there St_xs St_ys St_zs St_signs St_weights]) H := hP
                have hD : va_D A (List.flatten [wRa cy hRa hRa_misfits hRa_nodals hRa_order hRa_places hRa_counted hRa_begins hPl hBu ns nn Ra_misfits Ra_nodals Ra_order Ra_places Ra_keptCount Ra_least Ra_version (upd Ra_counted_v_44 x11_44.toNatClampNeg x12_44) Ra_begins, wPl cy hPl hPl_lesser hPl_greater hPl_axisOf hPl_axisXs hPl_axisYs hPl_axisZs hPl_axisSquares hPl_poleSigns hPo np nq Pl_poleCount Pl_pairCount Pl_lesser Pl_greater Pl_axisOf Pl_axisXs Pl_axisYs Pl_axisZs Pl_axisSquares Pl_axisCount w1, wPo cy hPo hPo_xs hPo_ys hPo_zs hPo_countUpTo Po_xs Po_ys Po_zs Po_countUpTo Po_count, wSt cy hSt hSt_there hSt_xs hSt_ys hSt_zs hSt_signs hSt_weights St_there St_xs St_ys St_zs St_signs St_weights]) := hD
                refine lv_iinc (v := y5_44 + 1) (lv' := [(5, .int (y5_44 + 1)), (9, .int x11_44), (8, .int 0), (7, .int x2), (6, .int r1_44), (0, .ref hRa), (1, .ref hSt), (2, .int p1), (3, .int p2), (4, .int x2)]) hx hb dX3_countMisfitsWith_138 hl (k := 9) rfl rfl (by decide) rfl (fun ls hl => ?_)
                refine lv_goto (tgt := 44) hx hb dX3_countMisfitsWith_141 (by decide) ?_
                exact ih44 (y5_44 + 1) (upd Ra_counted_v_44 x11_44.toNatClampNeg x12_44) _ _ ls hw hP hD hS (lv_sub hl [5, 6, 7, 8, 9, 0] rfl)
          · have hw := hw.2 c19_44
            refine lv_iload hx hb dX3_countMisfitsWith_92 (lv_at hl 6 rfl) ?_
            refine lv_goto (tgt := 98) hx hb dX3_countMisfitsWith_94 (by decide) ?_
            refine lv_istore (lv' := [(8, .int x2), (7, .int x2), (6, .int r1_44), (0, .ref hRa), (1, .ref hSt), (2, .int p1), (3, .int p2), (4, .int x2), (5, .int y5_44)]) hx hb dX3_countMisfitsWith_98 hl (by decide) rfl (fun ls hl => ?_)
            refine lv_aload_n hx hb dX3_countMisfitsWith_100 rfl (lv_at hl 3 rfl) ?_
            refine va_get (D := D) (ci := 3) (v := .ref hRa_misfits) (C := RX3) (T := TX3) (N := 11) hx hb hts inlX3 hown hK hP 0 rfl rfl 2 (by decide) (hts (.fieldLink RX3 41 "SquarePlanes$Ranking" "misfits" "[I") mw_6_7) (fun _ h9 => h9) rfl dX3_countMisfitsWith_101 ?_
            refine lv_iload hx hb dX3_countMisfitsWith_104 (lv_at hl 8 rfl) ?_
            refine va_iald hx hb hK hP 1 0 rfl rfl hw.1 dX3_countMisfitsWith_106 ?_
            have hw := hw.2
            refine lv_iload hx hb dX3_countMisfitsWith_107 (lv_at hl 1 rfl) ?_
            refine lv_isub hx hb dX3_countMisfitsWith_109 ?_
            refine lv_iload hx hb dX3_countMisfitsWith_110 (lv_at hl 0 rfl) ?_
            refine lv_iadd hx hb dX3_countMisfitsWith_112 ?_
            refine lv_topi (fun x15_44 ex15_44 => ?_)
            have hw := hw x15_44 ex15_44
            refine lv_istore (lv' := [(9, .int x15_44), (8, .int x2), (7, .int x2), (6, .int r1_44), (0, .ref hRa), (1, .ref hSt), (2, .int p1), (3, .int p2), (4, .int x2), (5, .int y5_44)]) hx hb dX3_countMisfitsWith_113 hl (by decide) rfl (fun ls hl => ?_)
            refine lv_iload hx hb dX3_countMisfitsWith_115 (lv_at hl 0 rfl) ?_
            refine lv_if_lt (tgt := 138) hx hb dX3_countMisfitsWith_117 (by decide) (fun c18_44 => ?_) (fun c18_44 => ?_)
            · have hw := hw.1 c18_44
              refine lv_iinc (v := y5_44 + 1) (lv' := [(5, .int (y5_44 + 1)), (9, .int x15_44), (8, .int x2), (7, .int x2), (6, .int r1_44), (0, .ref hRa), (1, .ref hSt), (2, .int p1), (3, .int p2), (4, .int x2)]) hx hb dX3_countMisfitsWith_138 hl (k := 9) rfl rfl (by decide) rfl (fun ls hl => ?_)
              refine lv_goto (tgt := 44) hx hb dX3_countMisfitsWith_141 (by decide) ?_
              exact ih44 (y5_44 + 1) Ra_counted_v_44 _ _ ls hw hP hD hS (lv_sub hl [5, 6, 7, 8, 9, 0] rfl)
            · have hw := hw.2 c18_44
              refine lv_iload hx hb dX3_countMisfitsWith_120 (lv_at hl 0 rfl) ?_
              refine lv_bipush (v := 96) hx hb dX3_countMisfitsWith_122 (by decide) ?_
              refine lv_icmp_gt (tgt := 138) hx hb dX3_countMisfitsWith_124 (by decide) (fun c17_44 => ?_) (fun c17_44 => ?_)
              · have hw := hw.1 c17_44
                refine lv_iinc (v := y5_44 + 1) (lv' := [(5, .int (y5_44 + 1)), (9, .int x15_44), (8, .int x2), (7, .int x2), (6, .int r1_44), (0, .ref hRa), (1, .ref hSt), (2, .int p1), (3, .int p2), (4, .int x2)]) hx hb dX3_countMisfitsWith_138 hl (k := 9) rfl rfl (by decide) rfl (fun ls hl => ?_)
                refine lv_goto (tgt := 44) hx hb dX3_countMisfitsWith_141 (by decide) ?_
                exact ih44 (y5_44 + 1) Ra_counted_v_44 _ _ ls hw hP hD hS (lv_sub hl [5, 6, 7, 8, 9, 0] rfl)
              · have hw := hw.2 c17_44
                refine lv_aload_n hx hb dX3_countMisfitsWith_127 rfl (lv_at hl 4 rfl) ?_
                refine va_get (D := D) (ci := 3) (v := .ref hRa_counted) (C := RX3) (T := TX3) (N := 11) hx hb hts inlX3 hown hK hP 0 rfl rfl 9 (by decide) (hts (.fieldLink RX3 15 "SquarePlanes$Ranking" "counted" "[I") mw_6_0) (fun _ h9 => h9) rfl dX3_countMisfitsWith_128 ?_
                refine lv_iload hx hb dX3_countMisfitsWith_131 (lv_at hl 0 rfl) ?_
                refine lv_dup2_11 hx hb dX3_countMisfitsWith_133 rfl rfl ?_
                refine va_iald hx hb hK hP 5 0 rfl rfl hw.1 dX3_countMisfitsWith_134 ?_
                have hw := hw.2
                refine lv_iconst (v := 1) hx hb dX3_countMisfitsWith_135 (by decide) ?_
                refine lv_iadd hx hb dX3_countMisfitsWith_136 ?_
                refine lv_topi (fun x16_44 ex16_44 => ?_)
                have hw := hw x16_44 ex16_44
                refine va_iast hx hb hK hP hD hS 5 0 rfl rfl hw.1 dX3_countMisfitsWith_137 (fun H locs hP hD hS => ?_)
                have hw := hw.2
                have hP : va_P D vwCl (List.flatten [wRa cy hRa hRa_misfits hRa_nodals hRa_order hRa_places hRa_counted hRa_begins hPl hBu ns nn Ra_misfits Ra_nodals Ra_order Ra_places Ra_keptCount Ra_least Ra_version (upd Ra_counted_v_44 x15_44.toNatClampNeg x16_44) Ra_begins, wPl cy hPl hPl_lesser hPl_greater hPl_axisOf hPl_axisXs hPl_axisYs hPl_axisZs hPl_axisSquares hPl_poleSigns hPo np nq Pl_poleCount Pl_pairCount Pl_lesser Pl_greater Pl_axisOf Pl_axisXs Pl_axisYs Pl_axisZs Pl_axisSquares Pl_axisCount w1, wPo cy hPo hPo_xs hPo_ys hPo_zs hPo_countUpTo Po_xs Po_ys Po_zs Po_countUpTo Po_count, wSt cy hSt hSt_there hSt_xs hSt_ys hSt_zs hSt_signs hSt_weights St_there St_xs St_ys St_zs St_signs St_weights]) H := hP
                have hD : va_D A (List.flatten [wRa cy hRa hRa_misfits hRa_nodals hRa_order hRa_places hRa_counted hRa_begins hPl hBu ns nn Ra_misfits Ra_nodals Ra_order Ra_places Ra_keptCount Ra_least Ra_version (upd Ra_counted_v_44 x15_44.toNatClampNeg x16_44) Ra_begins, wPl cy hPl hPl_lesser hPl_greater hPl_axisOf hPl_axisXs hPl_axisYs hPl_axisZs hPl_axisSquares hPl_poleSigns hPo np nq Pl_poleCount Pl_pairCount Pl_lesser Pl_greater Pl_axisOf Pl_axisXs Pl_axisYs Pl_axisZs Pl_axisSquares Pl_axisCount w1, wPo cy hPo hPo_xs hPo_ys hPo_zs hPo_countUpTo Po_xs Po_ys Po_zs Po_countUpTo Po_count, wSt cy hSt hSt_there hSt_xs hSt_ys hSt_zs hSt_signs hSt_weights St_there St_xs St_ys St_zs St_signs St_weights]) := hD
                refine lv_iinc (v := y5_44 + 1) (lv' := [(5, .int (y5_44 + 1)), (9, .int x15_44), (8, .int x2), (7, .int x2), (6, .int r1_44), (0, .ref hRa), (1, .ref hSt), (2, .int p1), (3, .int p2), (4, .int x2)]) hx hb dX3_countMisfitsWith_138 hl (k := 9) rfl rfl (by decide) rfl (fun ls hl => ?_)
                refine lv_goto (tgt := 44) hx hb dX3_countMisfitsWith_141 (by decide) ?_
                exact ih44 (y5_44 + 1) (upd Ra_counted_v_44 x15_44.toNatClampNeg x16_44) _ _ ls hw hP hD hS (lv_sub hl [5, 6, 7, 8, 9, 0] rfl)
  refine kl44 _ ?_ n44 0 w3 _ _ ls hw hP hD hS (lv_sub hl [2, 3, 4, 5, 1, 0] rfl)
  · intro y5_44 Ra_counted_v_44 H locs ls hw hP hD hS hl
    exact W.vret hx hb hr (fun t ht hW => ⟨⟨(Ra_counted_v_44, w1), rfl, hw, ⟨by rw [ht]; exact hP, va_K.moved hW.alike hK, hD⟩⟩, hS.F ht⟩) hS.2.2 dX3_countMisfitsWith_144
set_option maxHeartbeats 4000000 in
set_option maxRecDepth 100000 in
theorem k_X4_countAgainst (l : Launch) (D : va_G) (cy : Nat → ClassId) (hPl hPl_lesser hPl_greater hPl_axisOf hPl_axisXs hPl_axisYs hPl_axisZs hPl_axisSquares hPl_poleSigns hPo hPo_xs hPo_ys hPo_zs hPo_countUpTo hSt hSt_there hSt_xs hSt_ys hSt_zs hSt_signs hSt_weights np nq : Nat) (Pl_poleCount : Int32) (Pl_pairCount : Int32) (Pl_lesser : Nat → Int32) (Pl_greater : Nat → Int32) (Pl_axisOf : Nat → Int32) (Pl_axisXs : Nat → Int32) (Pl_axisYs : Nat → Int32) (Pl_axisZs : Nat → Int32) (Pl_axisSquares : Nat → Int32) (Pl_axisCount : Int32) (Pl_poleSigns : Nat → Int32) (Po_xs : Nat → Int32) (Po_ys : Nat → Int32) (Po_zs : Nat → Int32) (Po_countUpTo : Nat → Int32) (Po_count : Int32) (St_there : Nat → Int32) (St_xs : Nat → Int32) (St_ys : Nat → Int32) (St_zs : Nat → Int32) (St_signs : Nat → Int32) (St_weights : Nat → Int32) (p1 : Int32) (sz : Nat) (Q : Int32 → Prop) (hw : wp_X4_countAgainst p1 np nq Pl_lesser Pl_greater Po_xs Po_ys Po_zs St_there St_xs St_ys St_zs St_signs Q) : Met l yX4_countAgainst (wA yX4_countAgainst cX4_countAgainst 5 (some .int)) { frames := 2, cells := 0, slots := 0, locals := 50 } (kPc [.ref hSt, .ref hPl, .int p1] D cy (List.flatten [wPl cy hPl hPl_lesser hPl_greater hPl_axisOf hPl_axisXs hPl_axisYs hPl_axisZs hPl_axisSquares hPl_poleSigns hPo np nq Pl_poleCount Pl_pairCount Pl_lesser Pl_greater Pl_axisOf Pl_axisXs Pl_axisYs Pl_axisZs Pl_axisSquares Pl_axisCount Pl_poleSigns, wPo cy hPo hPo_xs hPo_ys hPo_zs hPo_countUpTo Po_xs Po_ys Po_zs Po_countUpTo Po_count, wSt cy hSt hSt_there hSt_xs hSt_ys hSt_zs hSt_signs hSt_weights St_there St_xs St_ys St_zs St_signs St_weights]) sz) (kSi Q) 0 0 (fun _ => False) := by
  refine Met.ofW (cc := cX4_countAgainst) (maxL := 5) (ret := (some .int)) (by decide) rfl ?_
  intro p e s m args below meth c s₁ B hml hv
  obtain ⟨rfl, hsz, hN, hP, hK, hD0⟩ := hv
  have hx := B.exec
  have hb := B.bytes
  have hr := B.returns
  have hts0 := atoms_spec (ws := wA yX4_countAgainst cX4_countAgainst 5 (some .int)) B.pre
  have hts := fun w (h : w ∈ wsL_law) => hts0 w (List.mem_cons_of_mem _ h)
  have hown : s.vm.findClass RX4 = some m.cls := findClass_of_methodNamed B.named
  have hlocks := B.notSynchronized
  subst hsz
  have hD := hD0
  have hl := lv_entry ([.ref hSt, .ref hPl, .int p1]) (n := 5) (Nat.le_of_ble_eq_true rfl)
  rw [lg_entry_eq]
  generalize (lg_sl ([.ref hSt, .ref hPl, .int p1]) ++ List.replicate (5 - (lg_sl ([.ref hSt, .ref hPl, .int p1])).length) Slot.unset).toArray = ls at hl ⊢
  have hl : lv_has ls 5 [(0, .ref hSt), (1, .ref hPl), (2, .int p1)] := hl
  unfold wp_X4_countAgainst at hw
  refine lv_iconst (v := 0) hx hb dX4_countAgainst_0 (by decide) ?_
  refine lv_istore_n (lv' := [(3, .int 0), (0, .ref hSt), (1, .ref hPl), (2, .int p1)]) hx hb dX4_countAgainst_1 rfl hl (by decide) rfl (fun ls hl => ?_)
  refine lv_iconst (v := 0) hx hb dX4_countAgainst_2 (by decide) ?_
  refine lv_istore (lv' := [(4, .int 0), (3, .int 0), (0, .ref hSt), (1, .ref hPl), (2, .int p1)]) hx hb dX4_countAgainst_3 hl (by decide) rfl (fun ls hl => ?_)
  obtain ⟨n5, hw⟩ := hw
  have kl5 : ∀ (K5_67 : Int32 → Int32 → Prop) (hk5_67 : ∀ (y3_5 : Int32) (y4_5 : Int32) (ls : Array Slot), K5_67 y3_5 y4_5 → lv_has ls 5 [(0, .ref hSt), (1, .ref hPl), (2, .int p1), (3, .int y3_5), (4, .int y4_5)] → W p l e (headSpec (wA yX4_countAgainst cX4_countAgainst 5 (some .int)) { frames := 2, cells := 0, slots := 0, locals := 50 }).room s m #[.ref hSt, .ref hPl, .int p1] below meth c s.heap [] 0 0 (MQ below (kSi Q) #[.ref hSt, .ref hPl, .int p1] s 0 0 (fun _ => False)) (F0 m 67 ls [])) (n : Nat) (y3_5 : Int32) (y4_5 : Int32) (ls : Array Slot), wp_X4_countAgainst_L5 p1 np nq Pl_lesser Pl_greater Po_xs Po_ys Po_zs St_there St_xs St_ys St_zs St_signs K5_67 n y3_5 y4_5 → lv_has ls 5 [(0, .ref hSt), (1, .ref hPl), (2, .int p1), (3, .int y3_5), (4, .int y4_5)] → W p l e (headSpec (wA yX4_countAgainst cX4_countAgainst 5 (some .int)) { frames := 2, cells := 0, slots := 0, locals := 50 }).room s m #[.ref hSt, .ref hPl, .int p1] below meth c s.heap [] 0 0 (MQ below (kSi Q) #[.ref hSt, .ref hPl, .int p1] s 0 0 (fun _ => False)) (F0 m 5 ls []) := by
    intro K5_67 hk5_67 n
    induction n with
    | zero =>
      intro y3_5 y4_5 ls hw
      exact hw.elim
    | succ n ih5 =>
      intro y3_5 y4_5 ls hw hl
      unfold wp_X4_countAgainst_L5 at hw
      refine lv_iload hx hb dX4_countAgainst_5 (lv_at hl 4 rfl) ?_
      refine lv_bipush (v := 24) hx hb dX4_countAgainst_7 (by decide) ?_
      refine lv_icmp_ge (tgt := 67) hx hb dX4_countAgainst_9 (by decide) (fun c5_5 => ?_) (fun c5_5 => ?_)
      · have hw := hw.1 c5_5
        exact hk5_67 y3_5 y4_5 ls hw (lv_sub hl [0, 1, 2, 3, 4] rfl)
      · have hw := hw.2 c5_5
        refine lv_aload_n hx hb dX4_countAgainst_12 rfl (lv_at hl 0 rfl) ?_
        refine lv_iload hx hb dX4_countAgainst_13 (lv_at hl 4 rfl) ?_
        refine kc_i (va_runV (As := [.int y4_5]) (rest := []) ⟨hx, hb, hml, hown, hts⟩ (k_X4_isSigned l D cy hSt hSt_there hSt_xs hSt_ys hSt_zs hSt_signs hSt_weights St_there St_xs St_ys St_zs St_signs St_weights y4_5 _ _ hw) (cwV 1 hts (gV mw_22_5 mw_14_6 mw_14_7 mw_1_14 mw_14_8) rfl rfl rfl (by decide +kernel) ⟨Nat.le_of_ble_eq_true rfl, Nat.le_of_ble_eq_true rfl⟩) (fPreV hN hK hP hD [2] rfl rfl 14 (ci := 4) rfl rfl rfl _) rfl rfl hl.1 rfl (lv_room (Nat.le_of_ble_eq_true rfl)) dX4_countAgainst_15 ⟨Nat.zero_le _, Nat.zero_le _⟩) (fun r1_5 hw => ?_)
        refine lv_if_eq (tgt := 61) hx hb dX4_countAgainst_18 (by decide) (fun c4_5 => ?_) (fun c4_5 => ?_)
        · have hw := hw.1 c4_5
          refine lv_iinc (v := y4_5 + 1) (lv' := [(4, .int (y4_5 + 1)), (0, .ref hSt), (1, .ref hPl), (2, .int p1), (3, .int y3_5)]) hx hb dX4_countAgainst_61 hl (k := 4) rfl rfl (by decide) rfl (fun ls hl => ?_)
          refine lv_goto (tgt := 5) hx hb dX4_countAgainst_64 (by decide) ?_
          exact ih5 y3_5 (y4_5 + 1) ls hw (lv_sub hl [1, 2, 3, 4, 0] rfl)
        · have hw := hw.2 c4_5
          refine lv_aload_n hx hb dX4_countAgainst_21 rfl (lv_at hl 1 rfl) ?_
          refine lv_iload_n hx hb dX4_countAgainst_22 rfl (lv_at hl 2 rfl) ?_
          refine lv_aload_n hx hb dX4_countAgainst_23 rfl (lv_at hl 0 rfl) ?_
          refine va_get (D := D) (ci := 4) (v := .ref hSt_xs) (C := RX4) (T := TX4) (N := 6) hx hb hts inlX4 hown hK hP 14 rfl rfl 1 (by decide) (hts (.fieldLink RX4 15 "SquarePlanes$Stations" "xs" "[I") mw_2_14) (fun _ h9 => h9) rfl dX4_countAgainst_24 ?_
          refine lv_iload hx hb dX4_countAgainst_27 (lv_at hl 4 rfl) ?_
          refine va_iald hx hb hK hP 16 0 rfl rfl hw.1 dX4_countAgainst_29 ?_
          have hw := hw.2
          refine lv_aload_n hx hb dX4_countAgainst_30 rfl (lv_at hl 0 rfl) ?_
          refine va_get (D := D) (ci := 4) (v := .ref hSt_ys) (C := RX4) (T := TX4) (N := 6) hx hb hts inlX4 hown hK hP 14 rfl rfl 2 (by decide) (hts (.fieldLink RX4 19 "SquarePlanes$Stations" "ys" "[I") mw_2_15) (fun _ h9 => h9) rfl dX4_countAgainst_31 ?_
          refine lv_iload hx hb dX4_countAgainst_34 (lv_at hl 4 rfl) ?_
          refine va_iald hx hb hK hP 17 0 rfl rfl hw.1 dX4_countAgainst_36 ?_
          have hw := hw.2
          refine lv_aload_n hx hb dX4_countAgainst_37 rfl (lv_at hl 0 rfl) ?_
          refine va_get (D := D) (ci := 4) (v := .ref hSt_zs) (C := RX4) (T := TX4) (N := 6) hx hb hts inlX4 hown hK hP 14 rfl rfl 3 (by decide) (hts (.fieldLink RX4 22 "SquarePlanes$Stations" "zs" "[I") mw_2_16) (fun _ h9 => h9) rfl dX4_countAgainst_38 ?_
          refine lv_iload hx hb dX4_countAgainst_41 (lv_at hl 4 rfl) ?_
          refine va_iald hx hb hK hP 18 0 rfl rfl hw.1 dX4_countAgainst_43 ?_
          have hw := hw.2
          refine kc_i (va_runV (As := [.int p1, .int (St_xs y4_5.toNatClampNeg), .int (St_ys y4_5.toNatClampNeg), .int (St_zs y4_5.toNatClampNeg)]) (rest := []) ⟨hx, hb, hml, hown, hts⟩ (k_X1_signAlong l D cy hPl hPl_lesser hPl_greater hPl_axisOf hPl_axisXs hPl_axisYs hPl_axisZs hPl_axisSquares hPl_poleSigns hPo hPo_xs hPo_ys hPo_zs hPo_countUpTo np nq Pl_poleCount Pl_pairCount Pl_lesser Pl_greater Pl_axisOf Pl_axisXs Pl_axisYs Pl_axisZs Pl_axisSquares Pl_axisCount Pl_poleSigns Po_xs Po_ys Po_zs Po_countUpTo Po_count p1 (St_xs y4_5.toNatClampNeg) (St_ys y4_5.toNatClampNeg) (St_zs y4_5.toNatClampNeg) _ _ hw) (cwV 4 hts (gV mw_22_6 mw_22_7 mw_22_8 mw_2_3 mw_22_9) rfl rfl rfl (by decide +kernel) ⟨Nat.le_of_ble_eq_true rfl, Nat.le_of_ble_eq_true rfl⟩) (fPreV hN hK hP hD [0, 1] rfl rfl 0 (ci := 1) rfl rfl rfl _) rfl rfl hl.1 rfl (lv_room (Nat.le_of_ble_eq_true rfl)) dX4_countAgainst_44 ⟨Nat.zero_le _, Nat.zero_le _⟩) (fun r2_5 hw => ?_)
          refine lv_aload_n hx hb dX4_countAgainst_47 rfl (lv_at hl 0 rfl) ?_
          refine va_get (D := D) (ci := 4) (v := .ref hSt_signs) (C := RX4) (T := TX4) (N := 6) hx hb hts inlX4 hown hK hP 14 rfl rfl 4 (by decide) (hts (.fieldLink RX4 25 "SquarePlanes$Stations" "signs" "[I") mw_2_17) (fun _ h9 => h9) rfl dX4_countAgainst_48 ?_
          refine lv_iload hx hb dX4_countAgainst_51 (lv_at hl 4 rfl) ?_
          refine va_iald hx hb hK hP 19 0 rfl rfl hw.1 dX4_countAgainst_53 ?_
          have hw := hw.2
          refine lv_ineg hx hb dX4_countAgainst_54 ?_
          refine lv_icmp_ne (tgt := 61) hx hb dX4_countAgainst_55 (by decide) (fun c3_5 => ?_) (fun c3_5 => ?_)
          · have hw := hw.2 c3_5
            refine lv_iinc (v := y4_5 + 1) (lv' := [(4, .int (y4_5 + 1)), (0, .ref hSt), (1, .ref hPl), (2, .int p1), (3, .int y3_5)]) hx hb dX4_countAgainst_61 hl (k := 4) rfl rfl (by decide) rfl (fun ls hl => ?_)
            refine lv_goto (tgt := 5) hx hb dX4_countAgainst_64 (by decide) ?_
            exact ih5 y3_5 (y4_5 + 1) ls hw (lv_sub hl [1, 2, 3, 4, 0] rfl)
          · have hw := hw.1 c3_5
            refine lv_iinc (v := y3_5 + 1) (lv' := [(3, .int (y3_5 + 1)), (0, .ref hSt), (1, .ref hPl), (2, .int p1), (4, .int y4_5)]) hx hb dX4_countAgainst_58 hl (k := 3) rfl rfl (by decide) rfl (fun ls hl => ?_)
            refine lv_iinc (v := y4_5 + 1) (lv' := [(4, .int (y4_5 + 1)), (3, .int (y3_5 + 1)), (0, .ref hSt), (1, .ref hPl), (2, .int p1)]) hx hb dX4_countAgainst_61 hl (k := 4) rfl rfl (by decide) rfl (fun ls hl => ?_)
            refine lv_goto (tgt := 5) hx hb dX4_countAgainst_64 (by decide) ?_
            exact ih5 (y3_5 + 1) (y4_5 + 1) ls hw (lv_sub hl [2, 3, 4, 1, 0] rfl)
  refine kl5 _ ?_ n5 0 0 ls hw (lv_sub hl [2, 3, 4, 1, 0] rfl)
  · intro y3_5 y4_5 ls hw hl
    refine lv_iload_n hx hb dX4_countAgainst_67 rfl (lv_at hl 3 rfl) ?_
    exact W.iret (v := y3_5) hx hb hr (fun t ht hW => ⟨y3_5, rfl, hw, ht⟩) (fun q h => by cases h) dX4_countAgainst_68
set_option maxHeartbeats 4000000 in
set_option maxRecDepth 100000 in
theorem k_X4_turnAll (l : Launch) (D : va_G) (cy : Nat → ClassId) (hSt hSt_there hSt_xs hSt_ys hSt_zs hSt_signs hSt_weights : Nat) (St_there : Nat → Int32) (St_xs : Nat → Int32) (St_ys : Nat → Int32) (St_zs : Nat → Int32) (St_signs : Nat → Int32) (St_weights : Nat → Int32) (p0 : Int32) (sz : Nat) (Q : Int32 → (Nat → Int32) → (Nat → Int32) → (Nat → Int32) → Prop) (hw : wp_X4_turnAll p0 St_there St_xs St_ys St_zs Q) : Met l yX4_turnAll (wA yX4_turnAll cX4_turnAll 4 (some .int)) { frames := 2, cells := 0, slots := 0, locals := 49 } (kPc [.ref hSt, .int p0] D cy (List.flatten [wSt cy hSt hSt_there hSt_xs hSt_ys hSt_zs hSt_signs hSt_weights St_there St_xs St_ys St_zs St_signs St_weights]) sz) (va_Qi (fun (r : Int32) (u : (Nat → Int32) × (Nat → Int32) × (Nat → Int32)) => Q r u.1 u.2.1 u.2.2) (fun u t => kB D cy (va_A (List.flatten [wSt cy hSt hSt_there hSt_xs hSt_ys hSt_zs hSt_signs hSt_weights St_there St_xs St_ys St_zs St_signs St_weights]) sz) (List.flatten [wSt cy hSt hSt_there hSt_xs hSt_ys hSt_zs hSt_signs hSt_weights St_there u.1 u.2.1 u.2.2 St_signs St_weights]) t) (va_A (List.flatten [wSt cy hSt hSt_there hSt_xs hSt_ys hSt_zs hSt_signs hSt_weights St_there St_xs St_ys St_zs St_signs St_weights]) sz)) 0 0 (va_A (List.flatten [wSt cy hSt hSt_there hSt_xs hSt_ys hSt_zs hSt_signs hSt_weights St_there St_xs St_ys St_zs St_signs St_weights]) sz) := by
  refine Met.ofW (cc := cX4_turnAll) (maxL := 4) (ret := (some .int)) (by decide) rfl ?_
  intro p e s m args below meth c s₁ B hml hv
  obtain ⟨rfl, hsz, hN, hP, hK, hD0⟩ := hv
  have hx := B.exec
  have hb := B.bytes
  have hr := B.returns
  have hts0 := atoms_spec (ws := wA yX4_turnAll cX4_turnAll 4 (some .int)) B.pre
  have hts := fun w (h : w ∈ wsL_law) => hts0 w (List.mem_cons_of_mem _ h)
  have hown : s.vm.findClass RX4 = some m.cls := findClass_of_methodNamed B.named
  have hlocks := B.notSynchronized
  subst hsz
  have hD := hD0.self (sz := s.heap.size)
  generalize hAe : va_A (List.flatten [wSt cy hSt hSt_there hSt_xs hSt_ys hSt_zs hSt_signs hSt_weights St_there St_xs St_ys St_zs St_signs St_weights]) s.heap.size = A at hD ⊢
  have hA : ∀ q : Nat, s.heap.size ≤ q → A q := fun q h => by rw [← hAe]; exact Or.inr h
  have hS : va_S A s.heap s.heap [] := va_S.rf
  have hP : va_P D vwCl (List.flatten [wSt cy hSt hSt_there hSt_xs hSt_ys hSt_zs hSt_signs hSt_weights St_there St_xs St_ys St_zs St_signs St_weights]) s.heap := hP
  have hl := lv_entry ([.ref hSt, .int p0]) (n := 4) (Nat.le_of_ble_eq_true rfl)
  rw [lg_entry_eq]
  generalize (lg_sl ([.ref hSt, .int p0]) ++ List.replicate (4 - (lg_sl ([.ref hSt, .int p0])).length) Slot.unset).toArray = ls at hl ⊢
  have hl : lv_has ls 4 [(0, .ref hSt), (1, .int p0)] := hl
  unfold wp_X4_turnAll at hw
  refine lv_iconst (v := 0) hx hb dX4_turnAll_0 (by decide) ?_
  refine lv_istore_n (lv' := [(2, .int 0), (0, .ref hSt), (1, .int p0)]) hx hb dX4_turnAll_1 rfl hl (by decide) rfl (fun ls hl => ?_)
  refine lv_iconst (v := 0) hx hb dX4_turnAll_2 (by decide) ?_
  refine lv_istore_n (lv' := [(3, .int 0), (2, .int 0), (0, .ref hSt), (1, .int p0)]) hx hb dX4_turnAll_3 rfl hl (by decide) rfl (fun ls hl => ?_)
  obtain ⟨n4, hw⟩ := hw
  have kl4 : ∀ (K4_37 : Int32 → Int32 → (Nat → Int32) → (Nat → Int32) → (Nat → Int32) → Prop) (hk4_37 : ∀ (y2_4 : Int32) (y3_4 : Int32) (St_xs_v_4 : Nat → Int32) (St_ys_v_4 : Nat → Int32) (St_zs_v_4 : Nat → Int32) (H : Heap) (locs : List Loc) (ls : Array Slot), K4_37 y2_4 y3_4 St_xs_v_4 St_ys_v_4 St_zs_v_4 → va_P D vwCl (List.flatten [wSt cy hSt hSt_there hSt_xs hSt_ys hSt_zs hSt_signs hSt_weights St_there St_xs_v_4 St_ys_v_4 St_zs_v_4 St_signs St_weights]) H → va_D A (List.flatten [wSt cy hSt hSt_there hSt_xs hSt_ys hSt_zs hSt_signs hSt_weights St_there St_xs_v_4 St_ys_v_4 St_zs_v_4 St_signs St_weights]) → va_S A s.heap H locs → lv_has ls 4 [(0, .ref hSt), (1, .int p0), (2, .int y2_4), (3, .int y3_4)] → W p l e (headSpec (wA yX4_turnAll cX4_turnAll 4 (some .int)) { frames := 2, cells := 0, slots := 0, locals := 49 }).room s m #[.ref hSt, .int p0] below meth c H locs 0 0 (MQ below (va_Qi (fun (r : Int32) (u : (Nat → Int32) × (Nat → Int32) × (Nat → Int32)) => Q r u.1 u.2.1 u.2.2) (fun u t => kB D cy A (List.flatten [wSt cy hSt hSt_there hSt_xs hSt_ys hSt_zs hSt_signs hSt_weights St_there u.1 u.2.1 u.2.2 St_signs St_weights]) t) A) #[.ref hSt, .int p0] s 0 0 A) (F0 m 37 ls [])) (n : Nat) (y2_4 : Int32) (y3_4 : Int32) (St_xs_v_4 : Nat → Int32) (St_ys_v_4 : Nat → Int32) (St_zs_v_4 : Nat → Int32) (H : Heap) (locs : List Loc) (ls : Array Slot), wp_X4_turnAll_L4 p0 St_there K4_37 n y2_4 y3_4 St_xs_v_4 St_ys_v_4 St_zs_v_4 → va_P D vwCl (List.flatten [wSt cy hSt hSt_there hSt_xs hSt_ys hSt_zs hSt_signs hSt_weights St_there St_xs_v_4 St_ys_v_4 St_zs_v_4 St_signs St_weights]) H → va_D A (List.flatten [wSt cy hSt hSt_there hSt_xs hSt_ys hSt_zs hSt_signs hSt_weights St_there St_xs_v_4 St_ys_v_4 St_zs_v_4 St_signs St_weights]) → va_S A s.heap H locs → lv_has ls 4 [(0, .ref hSt), (1, .int p0), (2, .int y2_4), (3, .int y3_4)] → W p l e (headSpec (wA yX4_turnAll cX4_turnAll 4 (some .int)) { frames := 2, cells := 0, slots := 0, locals := 49 }).room s m #[.ref hSt, .int p0] below meth c H locs 0 0 (MQ below (va_Qi (fun (r : Int32) (u : (Nat → Int32) × (Nat → Int32) × (Nat → Int32)) => Q r u.1 u.2.1 u.2.2) (fun u t => kB D cy A (List.flatten [wSt cy hSt hSt_there hSt_xs hSt_ys hSt_zs hSt_signs hSt_weights St_there u.1 u.2.1 u.2.2 St_signs St_weights]) t) A) #[.ref hSt, .int p0] s 0 0 A) (F0 m 4 ls []) := by
    intro K4_37 hk4_37 n
    induction n with
    | zero =>
      intro y2_4 y3_4 St_xs_v_4 St_ys_v_4 St_zs_v_4 H locs ls hw
      exact hw.elim
    | succ n ih4 =>
      intro y2_4 y3_4 St_xs_v_4 St_ys_v_4 St_zs_v_4 H locs ls hw hP hD hS hl
      unfold wp_X4_turnAll_L4 at hw
      refine lv_iload_n hx hb dX4_turnAll_4 rfl (lv_at hl 3 rfl) ?_
      refine lv_bipush (v := 24) hx hb dX4_turnAll_5 (by decide) ?_
      refine lv_icmp_ge (tgt := 37) hx hb dX4_turnAll_7 (by decide) (fun c7_4 => ?_) (fun c7_4 => ?_)
      · have hw := hw.1 c7_4
        exact hk4_37 y2_4 y3_4 St_xs_v_4 St_ys_v_4 St_zs_v_4 _ _ ls hw hP hD hS (lv_sub hl [0, 1, 2, 3] rfl)
      · have hw := hw.2 c7_4
        refine lv_aload_n hx hb dX4_turnAll_10 rfl (lv_at hl 0 rfl) ?_
        refine va_get (D := D) (ci := 4) (v := .ref hSt_there) (C := RX4) (T := TX4) (N := 6) hx hb hts inlX4 hown hK hP 0 rfl rfl 0 (by decide) (hts (.fieldLink RX4 9 "SquarePlanes$Stations" "there" "[Z") mw_2_12) (fun _ h9 => h9) rfl dX4_turnAll_11 ?_
        refine lv_iload_n hx hb dX4_turnAll_14 rfl (lv_at hl 3 rfl) ?_
        refine va_zald hx hb hK hP 1 1 rfl rfl hw.1 dX4_turnAll_15 ?_
        have hw := hw.2
        refine lv_if_eq (tgt := 31) hx hb dX4_turnAll_16 (by decide) (fun c6_4 => ?_) (fun c6_4 => ?_)
        · have hw := hw.1 c6_4
          refine lv_iinc (v := y3_4 + 1) (lv' := [(3, .int (y3_4 + 1)), (0, .ref hSt), (1, .int p0), (2, .int y2_4)]) hx hb dX4_turnAll_31 hl (k := 3) rfl rfl (by decide) rfl (fun ls hl => ?_)
          refine lv_goto (tgt := 4) hx hb dX4_turnAll_34 (by decide) ?_
          exact ih4 y2_4 (y3_4 + 1) St_xs_v_4 St_ys_v_4 St_zs_v_4 _ _ ls hw hP hD hS (lv_sub hl [1, 2, 3, 0] rfl)
        · have hw := hw.2 c6_4
          refine lv_aload_n hx hb dX4_turnAll_19 rfl (lv_at hl 0 rfl) ?_
          refine lv_iload_n hx hb dX4_turnAll_20 rfl (lv_at hl 3 rfl) ?_
          refine lv_iload_n hx hb dX4_turnAll_21 rfl (lv_at hl 1 rfl) ?_
          refine fd_i [0] [] hP hD hS hA rfl rfl rfl (by decide) (va_runV (As := [.int y3_4, .int p0]) (rest := []) ⟨hx, hb, hml, hown, hts⟩ (k_X4_turnOne l D cy hSt hSt_there hSt_xs hSt_ys hSt_zs hSt_signs hSt_weights St_there St_xs_v_4 St_ys_v_4 St_zs_v_4 St_signs St_weights y3_4 p0 _ _ hw) (cwV 2 hts (gV mw_12_13 mw_12_14 mw_12_15 mw_1_14 mw_12_16) rfl rfl rfl (by decide +kernel) ⟨Nat.le_of_ble_eq_true rfl, Nat.le_of_ble_eq_true rfl⟩) (fPreV hN hK hP hD [0] rfl rfl 0 (ci := 4) rfl rfl rfl _) rfl rfl hl.1 rfl (lv_room (Nat.le_of_ble_eq_true rfl)) dX4_turnAll_22 ⟨Nat.zero_le _, Nat.zero_le _⟩) (fun r4_4 u H locs hw hP hD hS => ?_)
          obtain ⟨w1_4, w2_4, w3_4⟩ := u
          try dsimp only at hw
          have hP : va_P D vwCl (List.flatten [wSt cy hSt hSt_there hSt_xs hSt_ys hSt_zs hSt_signs hSt_weights St_there w1_4 w2_4 w3_4 St_signs St_weights]) H := fl_P hP [0] rfl
          have hD : va_D A (List.flatten [wSt cy hSt hSt_there hSt_xs hSt_ys hSt_zs hSt_signs hSt_weights St_there w1_4 w2_4 w3_4 St_signs St_weights]) := fl_D hD [0] rfl rfl
          refine lv_if_eq (tgt := 31) hx hb dX4_turnAll_25 (by decide) (fun c5_4 => ?_) (fun c5_4 => ?_)
          · have hw := hw.1 c5_4
            refine lv_iinc (v := y3_4 + 1) (lv' := [(3, .int (y3_4 + 1)), (0, .ref hSt), (1, .int p0), (2, .int y2_4)]) hx hb dX4_turnAll_31 hl (k := 3) rfl rfl (by decide) rfl (fun ls hl => ?_)
            refine lv_goto (tgt := 4) hx hb dX4_turnAll_34 (by decide) ?_
            exact ih4 y2_4 (y3_4 + 1) w1_4 w2_4 w3_4 _ _ ls hw hP hD hS (lv_sub hl [1, 2, 3, 0] rfl)
          · have hw := hw.2 c5_4
            refine lv_iinc (v := y2_4 + 1) (lv' := [(2, .int (y2_4 + 1)), (0, .ref hSt), (1, .int p0), (3, .int y3_4)]) hx hb dX4_turnAll_28 hl (k := 2) rfl rfl (by decide) rfl (fun ls hl => ?_)
            refine lv_iinc (v := y3_4 + 1) (lv' := [(3, .int (y3_4 + 1)), (2, .int (y2_4 + 1)), (0, .ref hSt), (1, .int p0)]) hx hb dX4_turnAll_31 hl (k := 3) rfl rfl (by decide) rfl (fun ls hl => ?_)
            refine lv_goto (tgt := 4) hx hb dX4_turnAll_34 (by decide) ?_
            exact ih4 (y2_4 + 1) (y3_4 + 1) w1_4 w2_4 w3_4 _ _ ls hw hP hD hS (lv_sub hl [2, 3, 1, 0] rfl)
  refine kl4 _ ?_ n4 0 0 St_xs St_ys St_zs _ _ ls hw hP hD hS (lv_sub hl [2, 3, 1, 0] rfl)
  · intro y2_4 y3_4 St_xs_v_4 St_ys_v_4 St_zs_v_4 H locs ls hw hP hD hS hl
    refine lv_iload_n hx hb dX4_turnAll_37 rfl (lv_at hl 2 rfl) ?_
    exact W.iret (v := y2_4) hx hb hr (fun t ht hW => ⟨⟨y2_4, (St_xs_v_4, St_ys_v_4, St_zs_v_4), rfl, hw, ⟨by rw [ht]; exact hP, va_K.moved hW.alike hK, hD⟩⟩, hS.F ht⟩) hS.2.2 dX4_turnAll_38
set_option maxHeartbeats 4000000 in
set_option maxRecDepth 100000 in
theorem k_X5_station (l : Launch) (D : va_G) (cy : Nat → ClassId) (hSP hSP_rankings hSt hPo hRa hSt_there hSt_xs hSt_ys hSt_zs hSt_signs hSt_weights : Nat) (SP_rankings : Nat → Option Nat) (SP_sizeNow : Int32) (SP_extraNow : Int32) (SP_version : Int32) (St_there : Nat → Int32) (St_xs : Nat → Int32) (St_ys : Nat → Int32) (St_zs : Nat → Int32) (St_signs : Nat → Int32) (St_weights : Nat → Int32) (p0 : Int32) (p1 : Int32) (p2 : Int32) (p3 : Int32) (sz : Nat) (Q : Int32 → Int32 → (Nat → Int32) → (Nat → Int32) → (Nat → Int32) → (Nat → Int32) → (Nat → Int32) → (Nat → Int32) → Prop) (hw : wp_X5_station p0 p1 p2 p3 SP_version St_there St_xs St_ys St_zs St_signs St_weights Q) : Met l yX5_station (wA yX5_station cX5_station 6 (some .int)) { frames := 2, cells := 0, slots := 0, locals := 48 } (kPc [.ref hSP, .int p0, .int p1, .int p2, .int p3] D cy (List.flatten [wSP cy hSP hSP_rankings hSt hPo hRa SP_rankings SP_sizeNow SP_extraNow SP_version, wSt cy hSt hSt_there hSt_xs hSt_ys hSt_zs hSt_signs hSt_weights St_there St_xs St_ys St_zs St_signs St_weights]) sz) (va_Qi (fun (r : Int32) (u : Int32 × (Nat → Int32) × (Nat → Int32) × (Nat → Int32) × (Nat → Int32) × (Nat → Int32) × (Nat → Int32)) => Q r u.1 u.2.1 u.2.2.1 u.2.2.2.1 u.2.2.2.2.1 u.2.2.2.2.2.1 u.2.2.2.2.2.2) (fun u t => kB D cy (va_A (List.flatten [wSP cy hSP hSP_rankings hSt hPo hRa SP_rankings SP_sizeNow SP_extraNow SP_version, wSt cy hSt hSt_there hSt_xs hSt_ys hSt_zs hSt_signs hSt_weights St_there St_xs St_ys St_zs St_signs St_weights]) sz) (List.flatten [wSP cy hSP hSP_rankings hSt hPo hRa SP_rankings SP_sizeNow SP_extraNow u.1, wSt cy hSt hSt_there hSt_xs hSt_ys hSt_zs hSt_signs hSt_weights u.2.1 u.2.2.1 u.2.2.2.1 u.2.2.2.2.1 u.2.2.2.2.2.1 u.2.2.2.2.2.2]) t) (va_A (List.flatten [wSP cy hSP hSP_rankings hSt hPo hRa SP_rankings SP_sizeNow SP_extraNow SP_version, wSt cy hSt hSt_there hSt_xs hSt_ys hSt_zs hSt_signs hSt_weights St_there St_xs St_ys St_zs St_signs St_weights]) sz)) 0 0 (va_A (List.flatten [wSP cy hSP hSP_rankings hSt hPo hRa SP_rankings SP_sizeNow SP_extraNow SP_version, wSt cy hSt hSt_there hSt_xs hSt_ys hSt_zs hSt_signs hSt_weights St_there St_xs St_ys St_zs St_signs St_weights]) sz) := by
  refine Met.ofW (cc := cX5_station) (maxL := 6) (ret := (some .int)) (by decide) rfl ?_
  intro p e s m args below meth c s₁ B hml hv
  obtain ⟨rfl, hsz, hN, hP, hK, hD0⟩ := hv
  have hx := B.exec
  have hb := B.bytes
  have hr := B.returns
  have hts0 := atoms_spec (ws := wA yX5_station cX5_station 6 (some .int)) B.pre
  have hts := fun w (h : w ∈ wsL_law) => hts0 w (List.mem_cons_of_mem _ h)
  have hown : s.vm.findClass RX5 = some m.cls := findClass_of_methodNamed B.named
  have hlocks := B.notSynchronized
  subst hsz
  have hD := hD0.self (sz := s.heap.size)
  generalize hAe : va_A (List.flatten [wSP cy hSP hSP_rankings hSt hPo hRa SP_rankings SP_sizeNow SP_extraNow SP_version, wSt cy hSt hSt_there hSt_xs hSt_ys hSt_zs hSt_signs hSt_weights St_there St_xs St_ys St_zs St_signs St_weights]) s.heap.size = A at hD ⊢
  have hA : ∀ q : Nat, s.heap.size ≤ q → A q := fun q h => by rw [← hAe]; exact Or.inr h
  have hS : va_S A s.heap s.heap [] := va_S.rf
  have hP : va_P D vwCl (List.flatten [wSP cy hSP hSP_rankings hSt hPo hRa SP_rankings SP_sizeNow SP_extraNow SP_version, wSt cy hSt hSt_there hSt_xs hSt_ys hSt_zs hSt_signs hSt_weights St_there St_xs St_ys St_zs St_signs St_weights]) s.heap := hP
  have hl := lv_entry ([.ref hSP, .int p0, .int p1, .int p2, .int p3]) (n := 6) (Nat.le_of_ble_eq_true rfl)
  rw [lg_entry_eq]
  generalize (lg_sl ([.ref hSP, .int p0, .int p1, .int p2, .int p3]) ++ List.replicate (6 - (lg_sl ([.ref hSP, .int p0, .int p1, .int p2, .int p3])).length) Slot.unset).toArray = ls at hl ⊢
  have hl : lv_has ls 6 [(0, .ref hSP), (1, .int p0), (2, .int p1), (3, .int p2), (4, .int p3)] := hl
  unfold wp_X5_station at hw
  refine lv_iload_n hx hb dX5_station_0 rfl (lv_at hl 1 rfl) ?_
  refine lv_if_lt (tgt := 10) hx hb dX5_station_1 (by decide) (fun c19 => ?_) (fun c19 => ?_)
  · have hw := hw.1 c19
    refine lv_iconst (v := (-1)) hx hb dX5_station_10 (by decide) ?_
    exact W.iret (v := (-1)) hx hb hr (fun t ht hW => ⟨⟨(-1), (SP_version, St_there, St_xs, St_ys, St_zs, St_signs, St_weights), rfl, hw, ⟨by rw [ht]; exact hP, va_K.moved hW.alike hK, hD⟩⟩, hS.F ht⟩) hS.2.2 dX5_station_11
  · have hw := hw.2 c19
    refine lv_iload_n hx hb dX5_station_4 rfl (lv_at hl 1 rfl) ?_
    refine lv_bipush (v := 24) hx hb dX5_station_5 (by decide) ?_
    refine lv_icmp_lt (tgt := 12) hx hb dX5_station_7 (by decide) (fun c18 => ?_) (fun c18 => ?_)
    · have hw := hw.1 c18
      refine lv_iload_n hx hb dX5_station_12 rfl (lv_at hl 2 rfl) ?_
      refine lv_iload_n hx hb dX5_station_13 rfl (lv_at hl 3 rfl) ?_
      refine lv_iload hx hb dX5_station_14 (lv_at hl 4 rfl) ?_
      refine kc_i (va_runS (As := [.int p1, .int p2, .int p3]) (rest := []) ⟨hx, hb, hml, hown, hts⟩ (k_X5_isTriple l D cy p1 p2 p3 _ _ hw) (va_cwS 3 hts (gS mw_9_11 mw_9_12 mw_1_2 mw_9_13) rfl rfl rfl (by decide +kernel) ⟨Nat.le_of_ble_eq_true rfl, Nat.le_of_ble_eq_true rfl⟩) (fPre hN hK hP hD [] rfl rfl _) rfl rfl hl.1 rfl (lv_room (Nat.le_of_ble_eq_true rfl)) dX5_station_16 ⟨Nat.zero_le _, Nat.zero_le _⟩) (fun r1 hw => ?_)
      refine lv_if_ne (tgt := 25) hx hb dX5_station_19 (by decide) (fun c17 => ?_) (fun c17 => ?_)
      · have hw := hw.2 c17
        refine lv_aload_n hx hb dX5_station_25 rfl (lv_at hl 0 rfl) ?_
        refine va_get (D := D) (ci := 5) (v := .ref hSt) (C := RX5) (T := TX5) (N := 7) hx hb hts inlX5 hown hK hP 0 rfl rfl 0 (by decide) (hts (.fieldLink RX5 14 "SquarePlanes" "stations" "LSquarePlanes$Stations;") mw_1_15) (fun _ h9 => h9) rfl dX5_station_26 ?_
        refine va_get (D := D) (ci := 4) (v := .ref hSt_there) (C := RX4) (T := TX4) (N := 6) hx hb hts inlX4 hown hK hP 2 rfl rfl 0 (by decide) (hts (.fieldLink RX5 61 "SquarePlanes$Stations" "there" "[Z") mw_9_10) (fun _ h9 => h9) rfl dX5_station_29 ?_
        refine lv_iload_n hx hb dX5_station_32 rfl (lv_at hl 1 rfl) ?_
        refine va_zald hx hb hK hP 3 1 rfl rfl hw.1 dX5_station_33 ?_
        have hw := hw.2
        refine lv_if_eq (tgt := 41) hx hb dX5_station_34 (by decide) (fun c16 => ?_) (fun c16 => ?_)
        · have hw := hw.1 c16
          refine lv_iconst (v := 0) hx hb dX5_station_41 (by decide) ?_
          refine lv_istore (lv' := [(5, .int 0), (0, .ref hSP), (1, .int p0), (2, .int p1), (3, .int p2), (4, .int p3)]) hx hb dX5_station_42 hl (by decide) rfl (fun ls hl => ?_)
          refine lv_aload_n hx hb dX5_station_44 rfl (lv_at hl 1 rfl) ?_
          refine va_get (D := D) (ci := 5) (v := .ref hSt) (C := RX5) (T := TX5) (N := 7) hx hb hts inlX5 hown hK hP 0 rfl rfl 0 (by decide) (hts (.fieldLink RX5 14 "SquarePlanes" "stations" "LSquarePlanes$Stations;") mw_1_15) (fun _ h9 => h9) rfl dX5_station_45 ?_
          refine lv_iload_n hx hb dX5_station_48 rfl (lv_at hl 2 rfl) ?_
          refine lv_iload_n hx hb dX5_station_49 rfl (lv_at hl 3 rfl) ?_
          refine lv_iload_n hx hb dX5_station_50 rfl (lv_at hl 4 rfl) ?_
          refine lv_iload hx hb dX5_station_51 (lv_at hl 5 rfl) ?_
          refine fd_v [1] [0] hP hD hS hA rfl rfl rfl (by decide) (va_runV (As := [.int p0, .int p1, .int p2, .int p3]) (rest := []) ⟨hx, hb, hml, hown, hts⟩ (k_X4_put l D cy hSt hSt_there hSt_xs hSt_ys hSt_zs hSt_signs hSt_weights St_there St_xs St_ys St_zs St_signs St_weights p0 p1 p2 p3 _ _ hw) (cwV 4 hts (gV mw_9_17 mw_9_18 mw_9_19 mw_1_14 mw_9_20) rfl rfl rfl (by decide +kernel) ⟨Nat.le_of_ble_eq_true rfl, Nat.le_of_ble_eq_true rfl⟩) (fPreV hN hK hP hD [1] rfl rfl 2 (ci := 4) rfl rfl rfl _) rfl rfl hl.1 rfl (lv_room (Nat.le_of_ble_eq_true rfl)) dX5_station_53 ⟨Nat.zero_le _, Nat.zero_le _⟩) (fun u H locs hw hP hD hS => ?_)
          obtain ⟨w2, w3, w4, w5, w6, w7⟩ := u
          try dsimp only at hw
          have hP : va_P D vwCl (List.flatten [wSP cy hSP hSP_rankings hSt hPo hRa SP_rankings SP_sizeNow SP_extraNow SP_version, wSt cy hSt hSt_there hSt_xs hSt_ys hSt_zs hSt_signs hSt_weights w2 w3 w4 w5 w6 w7]) H := fl_P hP [0, 1] rfl
          have hD : va_D A (List.flatten [wSP cy hSP hSP_rankings hSt hPo hRa SP_rankings SP_sizeNow SP_extraNow SP_version, wSt cy hSt hSt_there hSt_xs hSt_ys hSt_zs hSt_signs hSt_weights w2 w3 w4 w5 w6 w7]) := fl_D hD [0, 1] rfl rfl
          refine lv_aload_n hx hb dX5_station_56 rfl (lv_at hl 1 rfl) ?_
          refine lv_dup hx hb dX5_station_57 rfl ?_
          refine va_get (D := D) (ci := 5) (v := .int SP_version) (C := RX5) (T := TX5) (N := 7) hx hb hts inlX5 hown hK hP 0 rfl rfl 6 (by decide) (hts (.fieldLink RX5 54 "SquarePlanes" "version" "I") mw_2_7) (fun _ h9 => h9) rfl dX5_station_58 ?_
          refine lv_iconst (v := 1) hx hb dX5_station_61 (by decide) ?_
          refine lv_iadd hx hb dX5_station_62 ?_
          refine lv_topi (fun x8 ex8 => ?_)
          have hw := hw x8 ex8
          refine va_put (D := D) (ci := 5) (v := .int x8) (ty := tyX5 6) (C := RX5) (T := TX5) (N := 7) hx hb hts inlX5 tyX5 tyX5_ok nmX5 hown hK hP hD hS 0 rfl rfl 6 (by decide) (hts (.fieldLink RX5 54 "SquarePlanes" "version" "I") mw_2_7) (fun _ h9 => h9) rfl (tyX5_ok 6 (by decide)) rfl rfl (Nat.le_of_ble_eq_true rfl) dX5_station_63 (fun H locs hP hD hS => ?_)
          have hP : va_P D vwCl (List.flatten [wSP cy hSP hSP_rankings hSt hPo hRa SP_rankings SP_sizeNow SP_extraNow x8, wSt cy hSt hSt_there hSt_xs hSt_ys hSt_zs hSt_signs hSt_weights w2 w3 w4 w5 w6 w7]) H := hP
          have hD : va_D A (List.flatten [wSP cy hSP hSP_rankings hSt hPo hRa SP_rankings SP_sizeNow SP_extraNow x8, wSt cy hSt hSt_there hSt_xs hSt_ys hSt_zs hSt_signs hSt_weights w2 w3 w4 w5 w6 w7]) := hD
          refine lv_iload hx hb dX5_station_66 (lv_at hl 0 rfl) ?_
          exact W.iret (v := 0) hx hb hr (fun t ht hW => ⟨⟨0, (x8, w2, w3, w4, w5, w6, w7), rfl, hw, ⟨by rw [ht]; exact hP, va_K.moved hW.alike hK, hD⟩⟩, hS.F ht⟩) hS.2.2 dX5_station_68
        · have hw := hw.2 c16
          refine lv_iconst (v := 1) hx hb dX5_station_37 (by decide) ?_
          refine lv_goto (tgt := 42) hx hb dX5_station_38 (by decide) ?_
          refine lv_istore (lv' := [(5, .int 1), (0, .ref hSP), (1, .int p0), (2, .int p1), (3, .int p2), (4, .int p3)]) hx hb dX5_station_42 hl (by decide) rfl (fun ls hl => ?_)
          refine lv_aload_n hx hb dX5_station_44 rfl (lv_at hl 1 rfl) ?_
          refine va_get (D := D) (ci := 5) (v := .ref hSt) (C := RX5) (T := TX5) (N := 7) hx hb hts inlX5 hown hK hP 0 rfl rfl 0 (by decide) (hts (.fieldLink RX5 14 "SquarePlanes" "stations" "LSquarePlanes$Stations;") mw_1_15) (fun _ h9 => h9) rfl dX5_station_45 ?_
          refine lv_iload_n hx hb dX5_station_48 rfl (lv_at hl 2 rfl) ?_
          refine lv_iload_n hx hb dX5_station_49 rfl (lv_at hl 3 rfl) ?_
          refine lv_iload_n hx hb dX5_station_50 rfl (lv_at hl 4 rfl) ?_
          refine lv_iload hx hb dX5_station_51 (lv_at hl 5 rfl) ?_
          refine fd_v [1] [0] hP hD hS hA rfl rfl rfl (by decide) (va_runV (As := [.int p0, .int p1, .int p2, .int p3]) (rest := []) ⟨hx, hb, hml, hown, hts⟩ (k_X4_put l D cy hSt hSt_there hSt_xs hSt_ys hSt_zs hSt_signs hSt_weights St_there St_xs St_ys St_zs St_signs St_weights p0 p1 p2 p3 _ _ hw) (cwV 4 hts (gV mw_9_17 mw_9_18 mw_9_19 mw_1_14 mw_9_20) rfl rfl rfl (by decide +kernel) ⟨Nat.le_of_ble_eq_true rfl, Nat.le_of_ble_eq_true rfl⟩) (fPreV hN hK hP hD [1] rfl rfl 2 (ci := 4) rfl rfl rfl _) rfl rfl hl.1 rfl (lv_room (Nat.le_of_ble_eq_true rfl)) dX5_station_53 ⟨Nat.zero_le _, Nat.zero_le _⟩) (fun u H locs hw hP hD hS => ?_)
          obtain ⟨w9, w10, w11, w12, w13, w14⟩ := u
          try dsimp only at hw
          have hP : va_P D vwCl (List.flatten [wSP cy hSP hSP_rankings hSt hPo hRa SP_rankings SP_sizeNow SP_extraNow SP_version, wSt cy hSt hSt_there hSt_xs hSt_ys hSt_zs hSt_signs hSt_weights w9 w10 w11 w12 w13 w14]) H := fl_P hP [0, 1] rfl
          have hD : va_D A (List.flatten [wSP cy hSP hSP_rankings hSt hPo hRa SP_rankings SP_sizeNow SP_extraNow SP_version, wSt cy hSt hSt_there hSt_xs hSt_ys hSt_zs hSt_signs hSt_weights w9 w10 w11 w12 w13 w14]) := fl_D hD [0, 1] rfl rfl
          refine lv_aload_n hx hb dX5_station_56 rfl (lv_at hl 1 rfl) ?_
          refine lv_dup hx hb dX5_station_57 rfl ?_
          refine va_get (D := D) (ci := 5) (v := .int SP_version) (C := RX5) (T := TX5) (N := 7) hx hb hts inlX5 hown hK hP 0 rfl rfl 6 (by decide) (hts (.fieldLink RX5 54 "SquarePlanes" "version" "I") mw_2_7) (fun _ h9 => h9) rfl dX5_station_58 ?_
          refine lv_iconst (v := 1) hx hb dX5_station_61 (by decide) ?_
          refine lv_iadd hx hb dX5_station_62 ?_
          refine lv_topi (fun x15 ex15 => ?_)
          have hw := hw x15 ex15
          refine va_put (D := D) (ci := 5) (v := .int x15) (ty := tyX5 6) (C := RX5) (T := TX5) (N := 7) hx hb hts inlX5 tyX5 tyX5_ok nmX5 hown hK hP hD hS 0 rfl rfl 6 (by decide) (hts (.fieldLink RX5 54 "SquarePlanes" "version" "I") mw_2_7) (fun _ h9 => h9) rfl (tyX5_ok 6 (by decide)) rfl rfl (Nat.le_of_ble_eq_true rfl) dX5_station_63 (fun H locs hP hD hS => ?_)
          have hP : va_P D vwCl (List.flatten [wSP cy hSP hSP_rankings hSt hPo hRa SP_rankings SP_sizeNow SP_extraNow x15, wSt cy hSt hSt_there hSt_xs hSt_ys hSt_zs hSt_signs hSt_weights w9 w10 w11 w12 w13 w14]) H := hP
          have hD : va_D A (List.flatten [wSP cy hSP hSP_rankings hSt hPo hRa SP_rankings SP_sizeNow SP_extraNow x15, wSt cy hSt hSt_there hSt_xs hSt_ys hSt_zs hSt_signs hSt_weights w9 w10 w11 w12 w13 w14]) := hD
          refine lv_iload hx hb dX5_station_66 (lv_at hl 0 rfl) ?_
          exact W.iret (v := 1) hx hb hr (fun t ht hW => ⟨⟨1, (x15, w9, w10, w11, w12, w13, w14), rfl, hw, ⟨by rw [ht]; exact hP, va_K.moved hW.alike hK, hD⟩⟩, hS.F ht⟩) hS.2.2 dX5_station_68
      · have hw := hw.1 c17
        refine lv_bipush (v := (-2)) hx hb dX5_station_22 (by decide) ?_
        exact W.iret (v := (-2)) hx hb hr (fun t ht hW => ⟨⟨(-2), (SP_version, St_there, St_xs, St_ys, St_zs, St_signs, St_weights), rfl, hw, ⟨by rw [ht]; exact hP, va_K.moved hW.alike hK, hD⟩⟩, hS.F ht⟩) hS.2.2 dX5_station_24
    · have hw := hw.2 c18
      refine lv_iconst (v := (-1)) hx hb dX5_station_10 (by decide) ?_
      exact W.iret (v := (-1)) hx hb hr (fun t ht hW => ⟨⟨(-1), (SP_version, St_there, St_xs, St_ys, St_zs, St_signs, St_weights), rfl, hw, ⟨by rw [ht]; exact hP, va_K.moved hW.alike hK, hD⟩⟩, hS.F ht⟩) hS.2.2 dX5_station_11
set_option maxHeartbeats 4000000 in
set_option maxRecDepth 100000 in
theorem k_X5_poleOf (l : Launch) (D : va_G) (cy : Nat → ClassId) (hSP hSP_rankings hSt hPo hRa hPo_xs hPo_ys hPo_zs hPo_countUpTo : Nat) (SP_rankings : Nat → Option Nat) (SP_sizeNow : Int32) (SP_extraNow : Int32) (SP_version : Int32) (Po_xs : Nat → Int32) (Po_ys : Nat → Int32) (Po_zs : Nat → Int32) (Po_countUpTo : Nat → Int32) (Po_count : Int32) (p0 : Int32) (p1 : Int32) (p2 : Int32) (sz : Nat) (Q : Int32 → Prop) (hw : wp_X5_poleOf p0 p1 p2 SP_sizeNow Po_xs Po_ys Po_zs Po_countUpTo Q) : Met l yX5_poleOf (wA yX5_poleOf cX5_poleOf 5 (some .int)) { frames := 3, cells := 0, slots := 0, locals := 70 } (kPc [.ref hSP, .int p0, .int p1, .int p2] D cy (List.flatten [wSP cy hSP hSP_rankings hSt hPo hRa SP_rankings SP_sizeNow SP_extraNow SP_version, wPo cy hPo hPo_xs hPo_ys hPo_zs hPo_countUpTo Po_xs Po_ys Po_zs Po_countUpTo Po_count]) sz) (kSi Q) 0 0 (fun _ => False) := by
  refine Met.ofW (cc := cX5_poleOf) (maxL := 5) (ret := (some .int)) (by decide) rfl ?_
  intro p e s m args below meth c s₁ B hml hv
  obtain ⟨rfl, hsz, hN, hP, hK, hD0⟩ := hv
  have hx := B.exec
  have hb := B.bytes
  have hr := B.returns
  have hts0 := atoms_spec (ws := wA yX5_poleOf cX5_poleOf 5 (some .int)) B.pre
  have hts := fun w (h : w ∈ wsL_law) => hts0 w (List.mem_cons_of_mem _ h)
  have hown : s.vm.findClass RX5 = some m.cls := findClass_of_methodNamed B.named
  have hlocks := B.notSynchronized
  subst hsz
  have hD := hD0
  have hl := lv_entry ([.ref hSP, .int p0, .int p1, .int p2]) (n := 5) (Nat.le_of_ble_eq_true rfl)
  rw [lg_entry_eq]
  generalize (lg_sl ([.ref hSP, .int p0, .int p1, .int p2]) ++ List.replicate (5 - (lg_sl ([.ref hSP, .int p0, .int p1, .int p2])).length) Slot.unset).toArray = ls at hl ⊢
  have hl : lv_has ls 5 [(0, .ref hSP), (1, .int p0), (2, .int p1), (3, .int p2)] := hl
  unfold wp_X5_poleOf at hw
  refine lv_iload_n hx hb dX5_poleOf_0 rfl (lv_at hl 1 rfl) ?_
  refine lv_iload_n hx hb dX5_poleOf_1 rfl (lv_at hl 2 rfl) ?_
  refine lv_iload_n hx hb dX5_poleOf_2 rfl (lv_at hl 3 rfl) ?_
  refine kc_i (va_runS (As := [.int p0, .int p1, .int p2]) (rest := []) ⟨hx, hb, hml, hown, hts⟩ (k_X5_isTriple l D cy p0 p1 p2 _ _ hw) (va_cwS 3 hts (gS mw_9_11 mw_9_12 mw_1_2 mw_9_13) rfl rfl rfl (by decide +kernel) ⟨Nat.le_of_ble_eq_true rfl, Nat.le_of_ble_eq_true rfl⟩) (fPre hN hK hP hD [] rfl rfl _) rfl rfl hl.1 rfl (lv_room (Nat.le_of_ble_eq_true rfl)) dX5_poleOf_3 ⟨Nat.zero_le _, Nat.zero_le _⟩) (fun r1 hw => ?_)
  refine lv_if_ne (tgt := 12) hx hb dX5_poleOf_6 (by decide) (fun c5 => ?_) (fun c5 => ?_)
  · have hw := hw.2 c5
    refine lv_iload_n hx hb dX5_poleOf_12 rfl (lv_at hl 1 rfl) ?_
    refine lv_iload_n hx hb dX5_poleOf_13 rfl (lv_at hl 2 rfl) ?_
    refine lv_iload_n hx hb dX5_poleOf_14 rfl (lv_at hl 3 rfl) ?_
    refine kc_i (va_runS (As := [.int p0, .int p1, .int p2]) (rest := []) ⟨hx, hb, hml, hown, hts⟩ (k_X5_signedDivisor l D cy p0 p1 p2 _ _ hw) (va_cwS 3 hts (gS mw_20_0 mw_3_19 mw_1_2 mw_3_20) rfl rfl rfl (by decide +kernel) ⟨Nat.le_of_ble_eq_true rfl, Nat.le_of_ble_eq_true rfl⟩) (fPre hN hK hP hD [] rfl rfl _) rfl rfl hl.1 rfl (lv_room (Nat.le_of_ble_eq_true rfl)) dX5_poleOf_15 ⟨Nat.zero_le _, Nat.zero_le _⟩) (fun r2 hw => ?_)
    refine lv_istore (lv' := [(4, .int r2), (0, .ref hSP), (1, .int p0), (2, .int p1), (3, .int p2)]) hx hb dX5_poleOf_18 hl (by decide) rfl (fun ls hl => ?_)
    refine lv_iload hx hb dX5_poleOf_20 (lv_at hl 0 rfl) ?_
    refine lv_if_ne (tgt := 28) hx hb dX5_poleOf_22 (by decide) (fun c4 => ?_) (fun c4 => ?_)
    · have hw := hw.2 c4
      refine lv_aload_n hx hb dX5_poleOf_28 rfl (lv_at hl 1 rfl) ?_
      refine va_get (D := D) (ci := 5) (v := .ref hPo) (C := RX5) (T := TX5) (N := 7) hx hb hts inlX5 hown hK hP 0 rfl rfl 1 (by decide) (hts (.fieldLink RX5 21 "SquarePlanes" "poles" "LSquarePlanes$Poles;") mw_1_19) (fun _ h9 => h9) rfl dX5_poleOf_29 ?_
      refine lv_iload_n hx hb dX5_poleOf_32 rfl (lv_at hl 2 rfl) ?_
      refine lv_iload hx hb dX5_poleOf_33 (lv_at hl 0 rfl) ?_
      refine lv_idiv hx hb dX5_poleOf_35 hw.1 ?_
      have hw := hw.2
      refine lv_iload_n hx hb dX5_poleOf_36 rfl (lv_at hl 3 rfl) ?_
      refine lv_iload hx hb dX5_poleOf_37 (lv_at hl 0 rfl) ?_
      refine lv_idiv hx hb dX5_poleOf_39 hw.1 ?_
      have hw := hw.2
      refine lv_iload_n hx hb dX5_poleOf_40 rfl (lv_at hl 4 rfl) ?_
      refine lv_iload hx hb dX5_poleOf_41 (lv_at hl 0 rfl) ?_
      refine lv_idiv hx hb dX5_poleOf_43 hw.1 ?_
      have hw := hw.2
      refine lv_aload_n hx hb dX5_poleOf_44 rfl (lv_at hl 1 rfl) ?_
      refine va_get (D := D) (ci := 5) (v := .ref hPo) (C := RX5) (T := TX5) (N := 7) hx hb hts inlX5 hown hK hP 0 rfl rfl 1 (by decide) (hts (.fieldLink RX5 21 "SquarePlanes" "poles" "LSquarePlanes$Poles;") mw_1_19) (fun _ h9 => h9) rfl dX5_poleOf_45 ?_
      refine va_get (D := D) (ci := 2) (v := .ref hPo_countUpTo) (C := RX2) (T := TX2) (N := 5) hx hb hts inlX2 hown hK hP 2 rfl rfl 3 (by decide) (hts (.fieldLink RX5 37 "SquarePlanes$Poles" "countUpTo" "[I") mw_2_4) (fun _ h9 => h9) rfl dX5_poleOf_48 ?_
      refine lv_aload_n hx hb dX5_poleOf_51 rfl (lv_at hl 1 rfl) ?_
      refine va_get (D := D) (ci := 5) (v := .int SP_sizeNow) (C := RX5) (T := TX5) (N := 7) hx hb hts inlX5 hown hK hP 0 rfl rfl 4 (by decide) (hts (.fieldLink RX5 31 "SquarePlanes" "sizeNow" "I") mw_1_22) (fun _ h9 => h9) rfl dX5_poleOf_52 ?_
      refine va_iald hx hb hK hP 6 0 rfl rfl hw.1 dX5_poleOf_55 ?_
      have hw := hw.2
      refine kc_i (va_runV (As := [.int (p0 / r2), .int (p1 / r2), .int (p2 / r2), .int (Po_countUpTo SP_sizeNow.toNatClampNeg)]) (rest := []) ⟨hx, hb, hml, hown, hts⟩ (k_X2_find l D cy hPo hPo_xs hPo_ys hPo_zs hPo_countUpTo Po_xs Po_ys Po_zs Po_countUpTo Po_count (p0 / r2) (p1 / r2) (p2 / r2) (Po_countUpTo SP_sizeNow.toNatClampNeg) _ _ hw) (cwV 4 hts (gV mw_20_1 mw_20_2 mw_20_3 mw_1_18 mw_20_4) rfl rfl rfl (by decide +kernel) ⟨Nat.le_of_ble_eq_true rfl, Nat.le_of_ble_eq_true rfl⟩) (fPreV hN hK hP hD [1] rfl rfl 2 (ci := 2) rfl rfl rfl _) rfl rfl hl.1 rfl (lv_room (Nat.le_of_ble_eq_true rfl)) dX5_poleOf_56 ⟨Nat.zero_le _, Nat.zero_le _⟩) (fun r3 hw => ?_)
      exact W.iret (v := r3) hx hb hr (fun t ht hW => ⟨r3, rfl, hw, ht⟩) (fun q h => by cases h) dX5_poleOf_59
    · have hw := hw.1 c4
      refine lv_bipush (v := (-2)) hx hb dX5_poleOf_25 (by decide) ?_
      exact W.iret (v := (-2)) hx hb hr (fun t ht hW => ⟨(-2), rfl, hw, ht⟩) (fun q h => by cases h) dX5_poleOf_27
  · have hw := hw.1 c5
    refine lv_bipush (v := (-2)) hx hb dX5_poleOf_9 (by decide) ?_
    exact W.iret (v := (-2)) hx hb hr (fun t ht hW => ⟨(-2), rfl, hw, ht⟩) (fun q h => by cases h) dX5_poleOf_11
set_option maxHeartbeats 4000000 in
set_option maxRecDepth 100000 in
theorem k_X5_signAt (l : Launch) (D : va_G) (cy : Nat → ClassId) (hSP hSP_rankings hSt hPo hRa hRa_misfits hRa_nodals hRa_order hRa_places hRa_counted hRa_begins hPl hBu hPl_lesser hPl_greater hPl_axisOf hPl_axisXs hPl_axisYs hPl_axisZs hPl_axisSquares hPl_poleSigns hPo_xs hPo_ys hPo_zs hPo_countUpTo ns nn np nq : Nat) (SP_rankings : Nat → Option Nat) (SP_sizeNow : Int32) (SP_extraNow : Int32) (SP_version : Int32) (Ra_misfits : Nat → Int32) (Ra_nodals : Nat → Int32) (Ra_order : Nat → Int32) (Ra_places : Nat → Int32) (Ra_keptCount : Int32) (Ra_least : Int32) (Ra_version : Int32) (Ra_counted : Nat → Int32) (Ra_begins : Nat → Int32) (Pl_poleCount : Int32) (Pl_pairCount : Int32) (Pl_lesser : Nat → Int32) (Pl_greater : Nat → Int32) (Pl_axisOf : Nat → Int32) (Pl_axisXs : Nat → Int32) (Pl_axisYs : Nat → Int32) (Pl_axisZs : Nat → Int32) (Pl_axisSquares : Nat → Int32) (Pl_axisCount : Int32) (Pl_poleSigns : Nat → Int32) (Po_xs : Nat → Int32) (Po_ys : Nat → Int32) (Po_zs : Nat → Int32) (Po_countUpTo : Nat → Int32) (Po_count : Int32) (p0 : Int32) (p1 : Int32) (p2 : Int32) (p3 : Int32) (sz : Nat) (Q : Int32 → Prop) (hw : wp_X5_signAt p0 p1 p2 p3 ns nn np nq Pl_pairCount Pl_lesser Pl_greater Po_xs Po_ys Po_zs Q) : Met l yX5_signAt (wA yX5_signAt cX5_signAt 6 (some .int)) { frames := 2, cells := 0, slots := 0, locals := 50 } (kPc [.ref hSP, .int p0, .int p1, .int p2, .int p3] D cy (List.flatten [wSP cy hSP hSP_rankings hSt hPo hRa SP_rankings SP_sizeNow SP_extraNow SP_version, wRa cy hRa hRa_misfits hRa_nodals hRa_order hRa_places hRa_counted hRa_begins hPl hBu ns nn Ra_misfits Ra_nodals Ra_order Ra_places Ra_keptCount Ra_least Ra_version Ra_counted Ra_begins, wPl cy hPl hPl_lesser hPl_greater hPl_axisOf hPl_axisXs hPl_axisYs hPl_axisZs hPl_axisSquares hPl_poleSigns hPo np nq Pl_poleCount Pl_pairCount Pl_lesser Pl_greater Pl_axisOf Pl_axisXs Pl_axisYs Pl_axisZs Pl_axisSquares Pl_axisCount Pl_poleSigns, wPo cy hPo hPo_xs hPo_ys hPo_zs hPo_countUpTo Po_xs Po_ys Po_zs Po_countUpTo Po_count]) sz) (kSi Q) 0 0 (fun _ => False) := by
  refine Met.ofW (cc := cX5_signAt) (maxL := 6) (ret := (some .int)) (by decide) rfl ?_
  intro p e s m args below meth c s₁ B hml hv
  obtain ⟨rfl, hsz, hN, hP, hK, hD0⟩ := hv
  have hx := B.exec
  have hb := B.bytes
  have hr := B.returns
  have hts0 := atoms_spec (ws := wA yX5_signAt cX5_signAt 6 (some .int)) B.pre
  have hts := fun w (h : w ∈ wsL_law) => hts0 w (List.mem_cons_of_mem _ h)
  have hown : s.vm.findClass RX5 = some m.cls := findClass_of_methodNamed B.named
  have hlocks := B.notSynchronized
  subst hsz
  have hD := hD0
  have hl := lv_entry ([.ref hSP, .int p0, .int p1, .int p2, .int p3]) (n := 6) (Nat.le_of_ble_eq_true rfl)
  rw [lg_entry_eq]
  generalize (lg_sl ([.ref hSP, .int p0, .int p1, .int p2, .int p3]) ++ List.replicate (6 - (lg_sl ([.ref hSP, .int p0, .int p1, .int p2, .int p3])).length) Slot.unset).toArray = ls at hl ⊢
  have hl : lv_has ls 6 [(0, .ref hSP), (1, .int p0), (2, .int p1), (3, .int p2), (4, .int p3)] := hl
  unfold wp_X5_signAt at hw
  refine lv_aload_n hx hb dX5_signAt_0 rfl (lv_at hl 0 rfl) ?_
  refine va_get (D := D) (ci := 5) (v := .ref hRa) (C := RX5) (T := TX5) (N := 7) hx hb hts inlX5 hown hK hP 0 rfl rfl 3 (by decide) (hts (.fieldLink RX5 47 "SquarePlanes" "current" "LSquarePlanes$Ranking;") mw_2_5) (fun _ h9 => h9) rfl dX5_signAt_1 ?_
  refine va_get (D := D) (ci := 3) (v := .ref hPl) (C := RX3) (T := TX3) (N := 11) hx hb hts inlX3 hown hK hP 2 rfl rfl 0 (by decide) (hts (.fieldLink RX5 118 "SquarePlanes$Ranking" "planes" "LSquarePlanes$Planes;") mw_20_13) (fun _ h9 => h9) rfl dX5_signAt_4 ?_
  refine lv_astore (lv' := [(5, .ref hPl), (0, .ref hSP), (1, .int p0), (2, .int p1), (3, .int p2), (4, .int p3)]) hx hb dX5_signAt_7 hl (by decide) rfl (fun ls hl => ?_)
  refine lv_aload hx hb dX5_signAt_9 (lv_at hl 0 rfl) ?_
  refine lv_iload_n hx hb dX5_signAt_11 rfl (lv_at hl 2 rfl) ?_
  refine kc_i (va_runV (As := [.int p0]) (rest := []) ⟨hx, hb, hml, hown, hts⟩ (k_X1_hasSolution l D cy hPl hPl_lesser hPl_greater hPl_axisOf hPl_axisXs hPl_axisYs hPl_axisZs hPl_axisSquares hPl_poleSigns hPo np nq Pl_poleCount Pl_pairCount Pl_lesser Pl_greater Pl_axisOf Pl_axisXs Pl_axisYs Pl_axisZs Pl_axisSquares Pl_axisCount Pl_poleSigns p0 _ _ hw) (cwV 1 hts (gV mw_21_20 mw_21_21 mw_21_22 mw_2_3 mw_21_23) rfl rfl rfl (by decide +kernel) ⟨Nat.le_of_ble_eq_true rfl, Nat.le_of_ble_eq_true rfl⟩) (fPreV hN hK hP hD [2] rfl rfl 9 (ci := 1) rfl rfl rfl _) rfl rfl hl.1 rfl (lv_room (Nat.le_of_ble_eq_true rfl)) dX5_signAt_12 ⟨Nat.zero_le _, Nat.zero_le _⟩) (fun r1 hw => ?_)
  refine lv_if_ne (tgt := 20) hx hb dX5_signAt_15 (by decide) (fun c5 => ?_) (fun c5 => ?_)
  · have hw := hw.2 c5
    refine lv_iload_n hx hb dX5_signAt_20 rfl (lv_at hl 3 rfl) ?_
    refine lv_iload_n hx hb dX5_signAt_21 rfl (lv_at hl 4 rfl) ?_
    refine lv_iload hx hb dX5_signAt_22 (lv_at hl 5 rfl) ?_
    refine kc_i (va_runS (As := [.int p1, .int p2, .int p3]) (rest := []) ⟨hx, hb, hml, hown, hts⟩ (k_X5_isTriple l D cy p1 p2 p3 _ _ hw) (va_cwS 3 hts (gS mw_9_11 mw_9_12 mw_1_2 mw_9_13) rfl rfl rfl (by decide +kernel) ⟨Nat.le_of_ble_eq_true rfl, Nat.le_of_ble_eq_true rfl⟩) (fPre hN hK hP hD [] rfl rfl _) rfl rfl hl.1 rfl (lv_room (Nat.le_of_ble_eq_true rfl)) dX5_signAt_24 ⟨Nat.zero_le _, Nat.zero_le _⟩) (fun r2 hw => ?_)
    refine lv_if_eq (tgt := 45) hx hb dX5_signAt_27 (by decide) (fun c4 => ?_) (fun c4 => ?_)
    · have hw := hw.1 c4
      refine lv_bipush (v := (-2)) hx hb dX5_signAt_45 (by decide) ?_
      exact W.iret (v := (-2)) hx hb hr (fun t ht hW => ⟨(-2), rfl, hw, ht⟩) (fun q h => by cases h) dX5_signAt_47
    · have hw := hw.2 c4
      refine lv_aload hx hb dX5_signAt_30 (lv_at hl 0 rfl) ?_
      refine lv_iload_n hx hb dX5_signAt_32 rfl (lv_at hl 2 rfl) ?_
      refine lv_iload_n hx hb dX5_signAt_33 rfl (lv_at hl 3 rfl) ?_
      refine lv_iload_n hx hb dX5_signAt_34 rfl (lv_at hl 4 rfl) ?_
      refine lv_iload hx hb dX5_signAt_35 (lv_at hl 5 rfl) ?_
      refine kc_i (va_runV (As := [.int p0, .int p1, .int p2, .int p3]) (rest := []) ⟨hx, hb, hml, hown, hts⟩ (k_X1_signAlong l D cy hPl hPl_lesser hPl_greater hPl_axisOf hPl_axisXs hPl_axisYs hPl_axisZs hPl_axisSquares hPl_poleSigns hPo hPo_xs hPo_ys hPo_zs hPo_countUpTo np nq Pl_poleCount Pl_pairCount Pl_lesser Pl_greater Pl_axisOf Pl_axisXs Pl_axisYs Pl_axisZs Pl_axisSquares Pl_axisCount Pl_poleSigns Po_xs Po_ys Po_zs Po_countUpTo Po_count p0 p1 p2 p3 _ _ hw) (cwV 4 hts (gV mw_22_10 mw_22_7 mw_22_8 mw_2_3 mw_22_9) rfl rfl rfl (by decide +kernel) ⟨Nat.le_of_ble_eq_true rfl, Nat.le_of_ble_eq_true rfl⟩) (fPreV hN hK hP hD [2, 3] rfl rfl 9 (ci := 1) rfl rfl rfl _) rfl rfl hl.1 rfl (lv_room (Nat.le_of_ble_eq_true rfl)) dX5_signAt_37 ⟨Nat.zero_le _, Nat.zero_le _⟩) (fun r3 hw => ?_)
      refine lv_iconst (v := 1) hx hb dX5_signAt_40 (by decide) ?_
      refine lv_iadd hx hb dX5_signAt_41 ?_
      refine lv_goto (tgt := 47) hx hb dX5_signAt_42 (by decide) ?_
      exact W.iret (v := r3 + 1) hx hb hr (fun t ht hW => ⟨r3 + 1, rfl, hw, ht⟩) (fun q h => by cases h) dX5_signAt_47
  · have hw := hw.1 c5
    refine lv_iconst (v := (-1)) hx hb dX5_signAt_18 (by decide) ?_
    exact W.iret (v := (-1)) hx hb hr (fun t ht hW => ⟨(-1), rfl, hw, ht⟩) (fun q h => by cases h) dX5_signAt_19
set_option maxHeartbeats 4000000 in
set_option maxRecDepth 100000 in
theorem k_X5_axis (l : Launch) (D : va_G) (cy : Nat → ClassId) (hSP hSP_rankings hSt hPo hRa hRa_misfits hRa_nodals hRa_order hRa_places hRa_counted hRa_begins hPl hBu hPl_lesser hPl_greater hPl_axisOf hPl_axisXs hPl_axisYs hPl_axisZs hPl_axisSquares hPl_poleSigns ns nn np nq : Nat) (SP_rankings : Nat → Option Nat) (SP_sizeNow : Int32) (SP_extraNow : Int32) (SP_version : Int32) (Ra_misfits : Nat → Int32) (Ra_nodals : Nat → Int32) (Ra_order : Nat → Int32) (Ra_places : Nat → Int32) (Ra_keptCount : Int32) (Ra_least : Int32) (Ra_version : Int32) (Ra_counted : Nat → Int32) (Ra_begins : Nat → Int32) (Pl_poleCount : Int32) (Pl_pairCount : Int32) (Pl_lesser : Nat → Int32) (Pl_greater : Nat → Int32) (Pl_axisOf : Nat → Int32) (Pl_axisXs : Nat → Int32) (Pl_axisYs : Nat → Int32) (Pl_axisZs : Nat → Int32) (Pl_axisSquares : Nat → Int32) (Pl_axisCount : Int32) (Pl_poleSigns : Nat → Int32) (p0 : Int32) (p1 : Int32) (sz : Nat) (Q : Int32 → Prop) (hw : wp_X5_axis p0 p1 ns nn np nq Pl_pairCount Pl_axisOf Pl_axisXs Pl_axisYs Pl_axisZs Q) : Met l yX5_axis (wA yX5_axis cX5_axis 5 (some .int)) { frames := 2, cells := 0, slots := 0, locals := 41 } (kPc [.ref hSP, .int p0, .int p1] D cy (List.flatten [wSP cy hSP hSP_rankings hSt hPo hRa SP_rankings SP_sizeNow SP_extraNow SP_version, wRa cy hRa hRa_misfits hRa_nodals hRa_order hRa_places hRa_counted hRa_begins hPl hBu ns nn Ra_misfits Ra_nodals Ra_order Ra_places Ra_keptCount Ra_least Ra_version Ra_counted Ra_begins, wPl cy hPl hPl_lesser hPl_greater hPl_axisOf hPl_axisXs hPl_axisYs hPl_axisZs hPl_axisSquares hPl_poleSigns hPo np nq Pl_poleCount Pl_pairCount Pl_lesser Pl_greater Pl_axisOf Pl_axisXs Pl_axisYs Pl_axisZs Pl_axisSquares Pl_axisCount Pl_poleSigns]) sz) (kSi Q) 0 0 (fun _ => False) := by
  refine Met.ofW (cc := cX5_axis) (maxL := 5) (ret := (some .int)) (by decide) rfl ?_
  intro p e s m args below meth c s₁ B hml hv
  obtain ⟨rfl, hsz, hN, hP, hK, hD0⟩ := hv
  have hx := B.exec
  have hb := B.bytes
  have hr := B.returns
  have hts0 := atoms_spec (ws := wA yX5_axis cX5_axis 5 (some .int)) B.pre
  have hts := fun w (h : w ∈ wsL_law) => hts0 w (List.mem_cons_of_mem _ h)
  have hown : s.vm.findClass RX5 = some m.cls := findClass_of_methodNamed B.named
  have hlocks := B.notSynchronized
  subst hsz
  have hD := hD0
  have hl := lv_entry ([.ref hSP, .int p0, .int p1]) (n := 5) (Nat.le_of_ble_eq_true rfl)
  rw [lg_entry_eq]
  generalize (lg_sl ([.ref hSP, .int p0, .int p1]) ++ List.replicate (5 - (lg_sl ([.ref hSP, .int p0, .int p1])).length) Slot.unset).toArray = ls at hl ⊢
  have hl : lv_has ls 5 [(0, .ref hSP), (1, .int p0), (2, .int p1)] := hl
  unfold wp_X5_axis at hw
  refine lv_aload_n hx hb dX5_axis_0 rfl (lv_at hl 0 rfl) ?_
  refine va_get (D := D) (ci := 5) (v := .ref hRa) (C := RX5) (T := TX5) (N := 7) hx hb hts inlX5 hown hK hP 0 rfl rfl 3 (by decide) (hts (.fieldLink RX5 47 "SquarePlanes" "current" "LSquarePlanes$Ranking;") mw_2_5) (fun _ h9 => h9) rfl dX5_axis_1 ?_
  refine va_get (D := D) (ci := 3) (v := .ref hPl) (C := RX3) (T := TX3) (N := 11) hx hb hts inlX3 hown hK hP 2 rfl rfl 0 (by decide) (hts (.fieldLink RX5 118 "SquarePlanes$Ranking" "planes" "LSquarePlanes$Planes;") mw_20_13) (fun _ h9 => h9) rfl dX5_axis_4 ?_
  refine lv_astore_n (lv' := [(3, .ref hPl), (0, .ref hSP), (1, .int p0), (2, .int p1)]) hx hb dX5_axis_7 rfl hl (by decide) rfl (fun ls hl => ?_)
  refine lv_aload_n hx hb dX5_axis_8 rfl (lv_at hl 0 rfl) ?_
  refine lv_iload_n hx hb dX5_axis_9 rfl (lv_at hl 2 rfl) ?_
  refine kc_i (va_runV (As := [.int p0]) (rest := []) ⟨hx, hb, hml, hown, hts⟩ (k_X1_hasSolution l D cy hPl hPl_lesser hPl_greater hPl_axisOf hPl_axisXs hPl_axisYs hPl_axisZs hPl_axisSquares hPl_poleSigns hPo np nq Pl_poleCount Pl_pairCount Pl_lesser Pl_greater Pl_axisOf Pl_axisXs Pl_axisYs Pl_axisZs Pl_axisSquares Pl_axisCount Pl_poleSigns p0 _ _ hw) (cwV 1 hts (gV mw_21_20 mw_21_21 mw_21_22 mw_2_3 mw_21_23) rfl rfl rfl (by decide +kernel) ⟨Nat.le_of_ble_eq_true rfl, Nat.le_of_ble_eq_true rfl⟩) (fPreV hN hK hP hD [2] rfl rfl 9 (ci := 1) rfl rfl rfl _) rfl rfl hl.1 rfl (lv_room (Nat.le_of_ble_eq_true rfl)) dX5_axis_10 ⟨Nat.zero_le _, Nat.zero_le _⟩) (fun r1 hw => ?_)
  refine lv_if_ne (tgt := 18) hx hb dX5_axis_13 (by decide) (fun c4 => ?_) (fun c4 => ?_)
  · have hw := hw.2 c4
    refine lv_aload_n hx hb dX5_axis_18 rfl (lv_at hl 0 rfl) ?_
    refine va_get (D := D) (ci := 1) (v := .ref hPl_axisOf) (C := RX1) (T := TX1) (N := 12) hx hb hts inlX1 hown hK hP 9 rfl rfl 5 (by decide) (hts (.fieldLink RX5 170 "SquarePlanes$Planes" "axisOf" "[I") mw_23_21) (fun _ h9 => h9) rfl dX5_axis_19 ?_
    refine lv_iload_n hx hb dX5_axis_22 rfl (lv_at hl 2 rfl) ?_
    refine lv_iconst (v := 2) hx hb dX5_axis_23 (by decide) ?_
    refine lv_idiv hx hb dX5_axis_24 (by decide) ?_
    refine va_iald hx hb hK hP 12 0 rfl rfl hw.1 dX5_axis_25 ?_
    have hw := hw.2
    refine lv_topi (fun x2 ex2 => ?_)
    have hw := hw x2 ex2
    refine lv_istore (lv' := [(4, .int x2), (3, .ref hPl), (0, .ref hSP), (1, .int p0), (2, .int p1)]) hx hb dX5_axis_26 hl (by decide) rfl (fun ls hl => ?_)
    refine lv_iload_n hx hb dX5_axis_28 rfl (lv_at hl 4 rfl) ?_
    by_cases c3_0 : p1 = 0
    · have hw := hw.1 c3_0
      have tv : (p1).toInt = 0 := by rw [c3_0]; rfl
      refine lv_tableIn (tgt := 56) hx hb dX5_axis_29 (by rw [tv]; decide) (by rw [tv]; decide) (by rw [tv]; rfl) (by decide) ?_
      refine lv_aload_n hx hb dX5_axis_56 rfl (lv_at hl 1 rfl) ?_
      refine va_get (D := D) (ci := 1) (v := .ref hPl_axisXs) (C := RX1) (T := TX1) (N := 12) hx hb hts inlX1 hown hK hP 9 rfl rfl 6 (by decide) (hts (.fieldLink RX5 173 "SquarePlanes$Planes" "axisXs" "[I") mw_23_22) (fun _ h9 => h9) rfl dX5_axis_57 ?_
      refine lv_iload hx hb dX5_axis_60 (lv_at hl 0 rfl) ?_
      refine va_iald hx hb hK hP 13 0 rfl rfl hw.1 dX5_axis_62 ?_
      have hw := hw.2
      refine lv_bipush (v := 100) hx hb dX5_axis_63 (by decide) ?_
      refine lv_iadd hx hb dX5_axis_65 ?_
      exact W.iret (v := (Pl_axisXs x2.toNatClampNeg) + 100) hx hb hr (fun t ht hW => ⟨(Pl_axisXs x2.toNatClampNeg) + 100, rfl, hw, ht⟩) (fun q h => by cases h) dX5_axis_66
    by_cases c3_1 : p1 = 1
    · have hw := hw.2.1 c3_1
      have tv : (p1).toInt = 1 := by rw [c3_1]; rfl
      refine lv_tableIn (tgt := 67) hx hb dX5_axis_29 (by rw [tv]; decide) (by rw [tv]; decide) (by rw [tv]; rfl) (by decide) ?_
      refine lv_aload_n hx hb dX5_axis_67 rfl (lv_at hl 1 rfl) ?_
      refine va_get (D := D) (ci := 1) (v := .ref hPl_axisYs) (C := RX1) (T := TX1) (N := 12) hx hb hts inlX1 hown hK hP 9 rfl rfl 7 (by decide) (hts (.fieldLink RX5 176 "SquarePlanes$Planes" "axisYs" "[I") mw_23_23) (fun _ h9 => h9) rfl dX5_axis_68 ?_
      refine lv_iload hx hb dX5_axis_71 (lv_at hl 0 rfl) ?_
      refine va_iald hx hb hK hP 14 0 rfl rfl hw.1 dX5_axis_73 ?_
      have hw := hw.2
      refine lv_bipush (v := 100) hx hb dX5_axis_74 (by decide) ?_
      refine lv_iadd hx hb dX5_axis_76 ?_
      exact W.iret (v := (Pl_axisYs x2.toNatClampNeg) + 100) hx hb hr (fun t ht hW => ⟨(Pl_axisYs x2.toNatClampNeg) + 100, rfl, hw, ht⟩) (fun q h => by cases h) dX5_axis_77
    by_cases c3_2 : p1 = 2
    · have hw := hw.2.2.1 c3_2
      have tv : (p1).toInt = 2 := by rw [c3_2]; rfl
      refine lv_tableIn (tgt := 78) hx hb dX5_axis_29 (by rw [tv]; decide) (by rw [tv]; decide) (by rw [tv]; rfl) (by decide) ?_
      refine lv_aload_n hx hb dX5_axis_78 rfl (lv_at hl 1 rfl) ?_
      refine va_get (D := D) (ci := 1) (v := .ref hPl_axisZs) (C := RX1) (T := TX1) (N := 12) hx hb hts inlX1 hown hK hP 9 rfl rfl 8 (by decide) (hts (.fieldLink RX5 179 "SquarePlanes$Planes" "axisZs" "[I") mw_24_0) (fun _ h9 => h9) rfl dX5_axis_79 ?_
      refine lv_iload hx hb dX5_axis_82 (lv_at hl 0 rfl) ?_
      refine va_iald hx hb hK hP 15 0 rfl rfl hw.1 dX5_axis_84 ?_
      have hw := hw.2
      refine lv_bipush (v := 100) hx hb dX5_axis_85 (by decide) ?_
      refine lv_iadd hx hb dX5_axis_87 ?_
      exact W.iret (v := (Pl_axisZs x2.toNatClampNeg) + 100) hx hb hr (fun t ht hW => ⟨(Pl_axisZs x2.toNatClampNeg) + 100, rfl, hw, ht⟩) (fun q h => by cases h) dX5_axis_88
    have hw := hw.2.2.2 c3_0 c3_1 c3_2
    refine lv_tableOut (tgt := 89) hx hb dX5_axis_29 (by have t0 := lv_neT (a := 0) c3_0 rfl; have t1 := lv_neT (a := 1) c3_1 rfl; have t2 := lv_neT (a := 2) c3_2 rfl; omega) (by decide) ?_
    refine lv_bipush (v := (-2)) hx hb dX5_axis_89 (by decide) ?_
    exact W.iret (v := (-2)) hx hb hr (fun t ht hW => ⟨(-2), rfl, hw, ht⟩) (fun q h => by cases h) dX5_axis_91
  · have hw := hw.1 c4
    refine lv_iconst (v := (-1)) hx hb dX5_axis_16 (by decide) ?_
    exact W.iret (v := (-1)) hx hb hr (fun t ht hW => ⟨(-1), rfl, hw, ht⟩) (fun q h => by cases h) dX5_axis_17
set_option maxHeartbeats 4000000 in
set_option maxRecDepth 100000 in
theorem k_X5_apart (l : Launch) (D : va_G) (cy : Nat → ClassId) (hSP hSP_rankings hSt hPo hRa hRa_misfits hRa_nodals hRa_order hRa_places hRa_counted hRa_begins hPl hBu hPl_lesser hPl_greater hPl_axisOf hPl_axisXs hPl_axisYs hPl_axisZs hPl_axisSquares hPl_poleSigns ns nn np nq : Nat) (SP_rankings : Nat → Option Nat) (SP_sizeNow : Int32) (SP_extraNow : Int32) (SP_version : Int32) (Ra_misfits : Nat → Int32) (Ra_nodals : Nat → Int32) (Ra_order : Nat → Int32) (Ra_places : Nat → Int32) (Ra_keptCount : Int32) (Ra_least : Int32) (Ra_version : Int32) (Ra_counted : Nat → Int32) (Ra_begins : Nat → Int32) (Pl_poleCount : Int32) (Pl_pairCount : Int32) (Pl_lesser : Nat → Int32) (Pl_greater : Nat → Int32) (Pl_axisOf : Nat → Int32) (Pl_axisXs : Nat → Int32) (Pl_axisYs : Nat → Int32) (Pl_axisZs : Nat → Int32) (Pl_axisSquares : Nat → Int32) (Pl_axisCount : Int32) (Pl_poleSigns : Nat → Int32) (p0 : Int32) (p1 : Int32) (p2 : Int32) (sz : Nat) (Q : Int64 → Prop) (hw : wp_X5_apart p0 p1 p2 ns nn np nq Pl_pairCount Pl_axisOf Pl_axisXs Pl_axisYs Pl_axisZs Pl_axisSquares Q) : Met l yX5_apart (wA yX5_apart cX5_apart 7 (some .long)) { frames := 3, cells := 0, slots := 0, locals := 69 } (kPc [.ref hSP, .int p0, .int p1, .int p2] D cy (List.flatten [wSP cy hSP hSP_rankings hSt hPo hRa SP_rankings SP_sizeNow SP_extraNow SP_version, wRa cy hRa hRa_misfits hRa_nodals hRa_order hRa_places hRa_counted hRa_begins hPl hBu ns nn Ra_misfits Ra_nodals Ra_order Ra_places Ra_keptCount Ra_least Ra_version Ra_counted Ra_begins, wPl cy hPl hPl_lesser hPl_greater hPl_axisOf hPl_axisXs hPl_axisYs hPl_axisZs hPl_axisSquares hPl_poleSigns hPo np nq Pl_poleCount Pl_pairCount Pl_lesser Pl_greater Pl_axisOf Pl_axisXs Pl_axisYs Pl_axisZs Pl_axisSquares Pl_axisCount Pl_poleSigns]) sz) (kSl Q) 0 0 (fun _ => False) := by
  refine Met.ofW (cc := cX5_apart) (maxL := 7) (ret := (some .long)) (by decide) rfl ?_
  intro p e s m args below meth c s₁ B hml hv
  obtain ⟨rfl, hsz, hN, hP, hK, hD0⟩ := hv
  have hx := B.exec
  have hb := B.bytes
  have hr := B.returns
  have hts0 := atoms_spec (ws := wA yX5_apart cX5_apart 7 (some .long)) B.pre
  have hts := fun w (h : w ∈ wsL_law) => hts0 w (List.mem_cons_of_mem _ h)
  have hown : s.vm.findClass RX5 = some m.cls := findClass_of_methodNamed B.named
  have hlocks := B.notSynchronized
  subst hsz
  have hD := hD0
  have hl := lv_entry ([.ref hSP, .int p0, .int p1, .int p2]) (n := 7) (Nat.le_of_ble_eq_true rfl)
  rw [lg_entry_eq]
  generalize (lg_sl ([.ref hSP, .int p0, .int p1, .int p2]) ++ List.replicate (7 - (lg_sl ([.ref hSP, .int p0, .int p1, .int p2])).length) Slot.unset).toArray = ls at hl ⊢
  have hl : lv_has ls 7 [(0, .ref hSP), (1, .int p0), (2, .int p1), (3, .int p2)] := hl
  unfold wp_X5_apart at hw
  refine lv_aload_n hx hb dX5_apart_0 rfl (lv_at hl 0 rfl) ?_
  refine va_get (D := D) (ci := 5) (v := .ref hRa) (C := RX5) (T := TX5) (N := 7) hx hb hts inlX5 hown hK hP 0 rfl rfl 3 (by decide) (hts (.fieldLink RX5 47 "SquarePlanes" "current" "LSquarePlanes$Ranking;") mw_2_5) (fun _ h9 => h9) rfl dX5_apart_1 ?_
  refine va_get (D := D) (ci := 3) (v := .ref hPl) (C := RX3) (T := TX3) (N := 11) hx hb hts inlX3 hown hK hP 2 rfl rfl 0 (by decide) (hts (.fieldLink RX5 118 "SquarePlanes$Ranking" "planes" "LSquarePlanes$Planes;") mw_20_13) (fun _ h9 => h9) rfl dX5_apart_4 ?_
  refine lv_astore (lv' := [(4, .ref hPl), (0, .ref hSP), (1, .int p0), (2, .int p1), (3, .int p2)]) hx hb dX5_apart_7 hl (by decide) rfl (fun ls hl => ?_)
  refine lv_aload hx hb dX5_apart_9 (lv_at hl 0 rfl) ?_
  refine lv_iload_n hx hb dX5_apart_11 rfl (lv_at hl 2 rfl) ?_
  refine kc_i (va_runV (As := [.int p0]) (rest := []) ⟨hx, hb, hml, hown, hts⟩ (k_X1_hasSolution l D cy hPl hPl_lesser hPl_greater hPl_axisOf hPl_axisXs hPl_axisYs hPl_axisZs hPl_axisSquares hPl_poleSigns hPo np nq Pl_poleCount Pl_pairCount Pl_lesser Pl_greater Pl_axisOf Pl_axisXs Pl_axisYs Pl_axisZs Pl_axisSquares Pl_axisCount Pl_poleSigns p0 _ _ hw) (cwV 1 hts (gV mw_21_20 mw_21_21 mw_21_22 mw_2_3 mw_21_23) rfl rfl rfl (by decide +kernel) ⟨Nat.le_of_ble_eq_true rfl, Nat.le_of_ble_eq_true rfl⟩) (fPreV hN hK hP hD [2] rfl rfl 9 (ci := 1) rfl rfl rfl _) rfl rfl hl.1 rfl (lv_room (Nat.le_of_ble_eq_true rfl)) dX5_apart_12 ⟨Nat.zero_le _, Nat.zero_le _⟩) (fun r1 hw => ?_)
  refine lv_if_eq (tgt := 36) hx hb dX5_apart_15 (by decide) (fun c11 => ?_) (fun c11 => ?_)
  · have hw := hw.1 c11
    refine lv_ldc2 (v := (-9223372036854775808)) hx hb hown (hts (.constantLong RX5 182 (-9223372036854775808)) mw_24_9) dX5_apart_36 ?_
    exact W.lret (v := (-9223372036854775808)) hx hb hr (fun t ht hW => ⟨(-9223372036854775808), rfl, hw, ht⟩) (fun q h => by cases h) dX5_apart_39
  · have hw := hw.2 c11
    refine lv_aload hx hb dX5_apart_18 (lv_at hl 0 rfl) ?_
    refine lv_iload_n hx hb dX5_apart_20 rfl (lv_at hl 3 rfl) ?_
    refine kc_i (va_runV (As := [.int p1]) (rest := []) ⟨hx, hb, hml, hown, hts⟩ (k_X1_hasSolution l D cy hPl hPl_lesser hPl_greater hPl_axisOf hPl_axisXs hPl_axisYs hPl_axisZs hPl_axisSquares hPl_poleSigns hPo np nq Pl_poleCount Pl_pairCount Pl_lesser Pl_greater Pl_axisOf Pl_axisXs Pl_axisYs Pl_axisZs Pl_axisSquares Pl_axisCount Pl_poleSigns p1 _ _ hw) (cwV 1 hts (gV mw_21_20 mw_21_21 mw_21_22 mw_2_3 mw_21_23) rfl rfl rfl (by decide +kernel) ⟨Nat.le_of_ble_eq_true rfl, Nat.le_of_ble_eq_true rfl⟩) (fPreV hN hK hP hD [2] rfl rfl 9 (ci := 1) rfl rfl rfl _) rfl rfl hl.1 rfl (lv_room (Nat.le_of_ble_eq_true rfl)) dX5_apart_21 ⟨Nat.zero_le _, Nat.zero_le _⟩) (fun r2 hw => ?_)
    refine lv_if_eq (tgt := 36) hx hb dX5_apart_24 (by decide) (fun c10 => ?_) (fun c10 => ?_)
    · have hw := hw.1 c10
      refine lv_ldc2 (v := (-9223372036854775808)) hx hb hown (hts (.constantLong RX5 182 (-9223372036854775808)) mw_24_9) dX5_apart_36 ?_
      exact W.lret (v := (-9223372036854775808)) hx hb hr (fun t ht hW => ⟨(-9223372036854775808), rfl, hw, ht⟩) (fun q h => by cases h) dX5_apart_39
    · have hw := hw.2 c10
      refine lv_iload_n hx hb dX5_apart_27 rfl (lv_at hl 4 rfl) ?_
      refine lv_if_lt (tgt := 36) hx hb dX5_apart_28 (by decide) (fun c9 => ?_) (fun c9 => ?_)
      · have hw := hw.1 c9
        refine lv_ldc2 (v := (-9223372036854775808)) hx hb hown (hts (.constantLong RX5 182 (-9223372036854775808)) mw_24_9) dX5_apart_36 ?_
        exact W.lret (v := (-9223372036854775808)) hx hb hr (fun t ht hW => ⟨(-9223372036854775808), rfl, hw, ht⟩) (fun q h => by cases h) dX5_apart_39
      · have hw := hw.2 c9
        refine lv_iload_n hx hb dX5_apart_31 rfl (lv_at hl 4 rfl) ?_
        refine lv_iconst (v := 1) hx hb dX5_apart_32 (by decide) ?_
        refine lv_icmp_le (tgt := 40) hx hb dX5_apart_33 (by decide) (fun c8 => ?_) (fun c8 => ?_)
        · have hw := hw.1 c8
          refine lv_aload hx hb dX5_apart_40 (lv_at hl 0 rfl) ?_
          refine va_get (D := D) (ci := 1) (v := .ref hPl_axisOf) (C := RX1) (T := TX1) (N := 12) hx hb hts inlX1 hown hK hP 9 rfl rfl 5 (by decide) (hts (.fieldLink RX5 170 "SquarePlanes$Planes" "axisOf" "[I") mw_23_21) (fun _ h9 => h9) rfl dX5_apart_42 ?_
          refine lv_iload_n hx hb dX5_apart_45 rfl (lv_at hl 2 rfl) ?_
          refine lv_iconst (v := 2) hx hb dX5_apart_46 (by decide) ?_
          refine lv_idiv hx hb dX5_apart_47 (by decide) ?_
          refine va_iald hx hb hK hP 12 0 rfl rfl hw.1 dX5_apart_48 ?_
          have hw := hw.2
          refine lv_topi (fun x3 ex3 => ?_)
          have hw := hw x3 ex3
          refine lv_istore (lv' := [(5, .int x3), (4, .ref hPl), (0, .ref hSP), (1, .int p0), (2, .int p1), (3, .int p2)]) hx hb dX5_apart_49 hl (by decide) rfl (fun ls hl => ?_)
          refine lv_aload hx hb dX5_apart_51 (lv_at hl 1 rfl) ?_
          refine va_get (D := D) (ci := 1) (v := .ref hPl_axisOf) (C := RX1) (T := TX1) (N := 12) hx hb hts inlX1 hown hK hP 9 rfl rfl 5 (by decide) (hts (.fieldLink RX5 170 "SquarePlanes$Planes" "axisOf" "[I") mw_23_21) (fun _ h9 => h9) rfl dX5_apart_53 ?_
          refine lv_iload_n hx hb dX5_apart_56 rfl (lv_at hl 4 rfl) ?_
          refine lv_iconst (v := 2) hx hb dX5_apart_57 (by decide) ?_
          refine lv_idiv hx hb dX5_apart_58 (by decide) ?_
          refine va_iald hx hb hK hP 12 0 rfl rfl hw.1 dX5_apart_59 ?_
          have hw := hw.2
          refine lv_topi (fun x4 ex4 => ?_)
          have hw := hw x4 ex4
          refine lv_istore (lv' := [(6, .int x4), (5, .int x3), (4, .ref hPl), (0, .ref hSP), (1, .int p0), (2, .int p1), (3, .int p2)]) hx hb dX5_apart_60 hl (by decide) rfl (fun ls hl => ?_)
          refine lv_aload hx hb dX5_apart_62 (lv_at hl 2 rfl) ?_
          refine lv_iload hx hb dX5_apart_64 (lv_at hl 1 rfl) ?_
          refine lv_iload hx hb dX5_apart_66 (lv_at hl 0 rfl) ?_
          refine kc_i (va_runV (As := [.int x3, .int x4]) (rest := []) ⟨hx, hb, hml, hown, hts⟩ (k_X1_apartUpper l D cy hPl hPl_lesser hPl_greater hPl_axisOf hPl_axisXs hPl_axisYs hPl_axisZs hPl_axisSquares hPl_poleSigns hPo np nq Pl_poleCount Pl_pairCount Pl_lesser Pl_greater Pl_axisOf Pl_axisXs Pl_axisYs Pl_axisZs Pl_axisSquares Pl_axisCount Pl_poleSigns x3 x4 _ _ hw) (cwV 2 hts (gV mw_24_10 mw_24_11 mw_24_12 mw_2_3 mw_24_13) rfl rfl rfl (by decide +kernel) ⟨Nat.le_of_ble_eq_true rfl, Nat.le_of_ble_eq_true rfl⟩) (fPreV hN hK hP hD [2] rfl rfl 9 (ci := 1) rfl rfl rfl _) rfl rfl hl.1 rfl (lv_room (Nat.le_of_ble_eq_true rfl)) dX5_apart_68 ⟨Nat.zero_le _, Nat.zero_le _⟩) (fun r5 hw => ?_)
          refine lv_aload hx hb dX5_apart_71 (lv_at hl 2 rfl) ?_
          refine lv_iload hx hb dX5_apart_73 (lv_at hl 1 rfl) ?_
          refine lv_iload hx hb dX5_apart_75 (lv_at hl 0 rfl) ?_
          refine kc_i (va_runV (As := [.int x3, .int x4]) (rest := [.int r5]) ⟨hx, hb, hml, hown, hts⟩ (k_X1_apartLower l D cy hPl hPl_lesser hPl_greater hPl_axisOf hPl_axisXs hPl_axisYs hPl_axisZs hPl_axisSquares hPl_poleSigns hPo np nq Pl_poleCount Pl_pairCount Pl_lesser Pl_greater Pl_axisOf Pl_axisXs Pl_axisYs Pl_axisZs Pl_axisSquares Pl_axisCount Pl_poleSigns x3 x4 _ _ hw) (cwV 2 hts (gV mw_24_22 mw_24_19 mw_24_20 mw_2_3 mw_24_21) rfl rfl rfl (by decide +kernel) ⟨Nat.le_of_ble_eq_true rfl, Nat.le_of_ble_eq_true rfl⟩) (fPreV hN hK hP hD [2] rfl rfl 9 (ci := 1) rfl rfl rfl _) rfl rfl hl.1 rfl (lv_room (Nat.le_of_ble_eq_true rfl)) dX5_apart_77 ⟨Nat.zero_le _, Nat.zero_le _⟩) (fun r6 hw => ?_)
          refine lv_iload_n hx hb dX5_apart_80 rfl (lv_at hl 6 rfl) ?_
          refine kc_l (va_runS (As := [.int r5, .int r6, .int p2]) (rest := []) ⟨hx, hb, hml, hown, hts⟩ (k_X5_leastTerm l D cy r5 r6 p2 _ _ hw) (va_cwS 3 hts (gS mw_24_23 mw_25_0 mw_1_2 mw_25_1) rfl rfl rfl (by decide +kernel) ⟨Nat.le_of_ble_eq_true rfl, Nat.le_of_ble_eq_true rfl⟩) (fPre hN hK hP hD [] rfl rfl _) rfl rfl hl.1 rfl (lv_room (Nat.le_of_ble_eq_true rfl)) dX5_apart_81 ⟨Nat.zero_le _, Nat.zero_le _⟩) (fun r7 hw => ?_)
          exact W.lret (v := r7) hx hb hr (fun t ht hW => ⟨r7, rfl, hw, ht⟩) (fun q h => by cases h) dX5_apart_84
        · have hw := hw.2 c8
          refine lv_ldc2 (v := (-9223372036854775808)) hx hb hown (hts (.constantLong RX5 182 (-9223372036854775808)) mw_24_9) dX5_apart_36 ?_
          exact W.lret (v := (-9223372036854775808)) hx hb hr (fun t ht hW => ⟨(-9223372036854775808), rfl, hw, ht⟩) (fun q h => by cases h) dX5_apart_39
set_option maxHeartbeats 4000000 in
set_option maxRecDepth 100000 in
theorem k_X6_station (l : Launch) (D : va_G) (cy : Nat → ClassId) (hMo hMo_isThere hMo_stationX hMo_stationY hMo_stationZ hMo_told hMo_weight hMo_poleX hMo_poleY hMo_poleZ hMo_lesser hMo_greater hMo_misfit hMo_nodal hMo_order hMo_placeOf hMo_unlikeX hMo_unlikeY hMo_unlikeZ hMo_farUp hMo_farDown hMo_axisOf : Nat) (Mo_isThere : Nat → Int32) (Mo_stationX : Nat → Int32) (Mo_stationY : Nat → Int32) (Mo_stationZ : Nat → Int32) (Mo_told : Nat → Int32) (Mo_weight : Nat → Int32) (Mo_size : Int32) (Mo_extra : Int32) (Mo_poles : Int32) (Mo_poleX : Nat → Int32) (Mo_poleY : Nat → Int32) (Mo_poleZ : Nat → Int32) (Mo_pairs : Int32) (Mo_lesser : Nat → Int32) (Mo_greater : Nat → Int32) (Mo_isKnown : Int32) (Mo_least : Int32) (Mo_kept : Int32) (Mo_misfit : Nat → Int32) (Mo_nodal : Nat → Int32) (Mo_order : Nat → Int32) (Mo_placeOf : Nat → Int32) (Mo_axisX : Int32) (Mo_axisY : Int32) (Mo_axisZ : Int32) (Mo_axes : Int32) (Mo_unlikeX : Nat → Int32) (Mo_unlikeY : Nat → Int32) (Mo_unlikeZ : Nat → Int32) (Mo_farUp : Nat → Int64) (Mo_farDown : Nat → Int64) (Mo_axisOf : Nat → Int32) (p0 : Int32) (p1 : Int32) (p2 : Int32) (p3 : Int32) (sz : Nat) (Q : Int32 → (Nat → Int32) → (Nat → Int32) → (Nat → Int32) → (Nat → Int32) → (Nat → Int32) → (Nat → Int32) → Int32 → Prop) (hw : wp_X6_station p0 p1 p2 p3 Mo_isThere Mo_stationX Mo_stationY Mo_stationZ Mo_told Mo_weight Mo_isKnown Q) : Met l yX6_station (wA yX6_station cX6_station 6 (some .int)) { frames := 2, cells := 0, slots := 0, locals := 44 } (kPc [.ref hMo, .int p0, .int p1, .int p2, .int p3] D cy (List.flatten [wMo cy hMo hMo_isThere hMo_stationX hMo_stationY hMo_stationZ hMo_told hMo_weight hMo_poleX hMo_poleY hMo_poleZ hMo_lesser hMo_greater hMo_misfit hMo_nodal hMo_order hMo_placeOf hMo_unlikeX hMo_unlikeY hMo_unlikeZ hMo_farUp hMo_farDown hMo_axisOf Mo_isThere Mo_stationX Mo_stationY Mo_stationZ Mo_told Mo_weight Mo_size Mo_extra Mo_poles Mo_poleX Mo_poleY Mo_poleZ Mo_pairs Mo_lesser Mo_greater Mo_isKnown Mo_least Mo_kept Mo_misfit Mo_nodal Mo_order Mo_placeOf Mo_axisX Mo_axisY Mo_axisZ Mo_axes Mo_unlikeX Mo_unlikeY Mo_unlikeZ Mo_farUp Mo_farDown Mo_axisOf]) sz) (va_Qi (fun (r : Int32) (u : (Nat → Int32) × (Nat → Int32) × (Nat → Int32) × (Nat → Int32) × (Nat → Int32) × (Nat → Int32) × Int32) => Q r u.1 u.2.1 u.2.2.1 u.2.2.2.1 u.2.2.2.2.1 u.2.2.2.2.2.1 u.2.2.2.2.2.2) (fun u t => kB D cy (va_A (List.flatten [wMo cy hMo hMo_isThere hMo_stationX hMo_stationY hMo_stationZ hMo_told hMo_weight hMo_poleX hMo_poleY hMo_poleZ hMo_lesser hMo_greater hMo_misfit hMo_nodal hMo_order hMo_placeOf hMo_unlikeX hMo_unlikeY hMo_unlikeZ hMo_farUp hMo_farDown hMo_axisOf Mo_isThere Mo_stationX Mo_stationY Mo_stationZ Mo_told Mo_weight Mo_size Mo_extra Mo_poles Mo_poleX Mo_poleY Mo_poleZ Mo_pairs Mo_lesser Mo_greater Mo_isKnown Mo_least Mo_kept Mo_misfit Mo_nodal Mo_order Mo_placeOf Mo_axisX Mo_axisY Mo_axisZ Mo_axes Mo_unlikeX Mo_unlikeY Mo_unlikeZ Mo_farUp Mo_farDown Mo_axisOf]) sz) (List.flatten [wMo cy hMo hMo_isThere hMo_stationX hMo_stationY hMo_stationZ hMo_told hMo_weight hMo_poleX hMo_poleY hMo_poleZ hMo_lesser hMo_greater hMo_misfit hMo_nodal hMo_order hMo_placeOf hMo_unlikeX hMo_unlikeY hMo_unlikeZ hMo_farUp hMo_farDown hMo_axisOf u.1 u.2.1 u.2.2.1 u.2.2.2.1 u.2.2.2.2.1 u.2.2.2.2.2.1 Mo_size Mo_extra Mo_poles Mo_poleX Mo_poleY Mo_poleZ Mo_pairs Mo_lesser Mo_greater u.2.2.2.2.2.2 Mo_least Mo_kept Mo_misfit Mo_nodal Mo_order Mo_placeOf Mo_axisX Mo_axisY Mo_axisZ Mo_axes Mo_unlikeX Mo_unlikeY Mo_unlikeZ Mo_farUp Mo_farDown Mo_axisOf]) t) (va_A (List.flatten [wMo cy hMo hMo_isThere hMo_stationX hMo_stationY hMo_stationZ hMo_told hMo_weight hMo_poleX hMo_poleY hMo_poleZ hMo_lesser hMo_greater hMo_misfit hMo_nodal hMo_order hMo_placeOf hMo_unlikeX hMo_unlikeY hMo_unlikeZ hMo_farUp hMo_farDown hMo_axisOf Mo_isThere Mo_stationX Mo_stationY Mo_stationZ Mo_told Mo_weight Mo_size Mo_extra Mo_poles Mo_poleX Mo_poleY Mo_poleZ Mo_pairs Mo_lesser Mo_greater Mo_isKnown Mo_least Mo_kept Mo_misfit Mo_nodal Mo_order Mo_placeOf Mo_axisX Mo_axisY Mo_axisZ Mo_axes Mo_unlikeX Mo_unlikeY Mo_unlikeZ Mo_farUp Mo_farDown Mo_axisOf]) sz)) 0 0 (va_A (List.flatten [wMo cy hMo hMo_isThere hMo_stationX hMo_stationY hMo_stationZ hMo_told hMo_weight hMo_poleX hMo_poleY hMo_poleZ hMo_lesser hMo_greater hMo_misfit hMo_nodal hMo_order hMo_placeOf hMo_unlikeX hMo_unlikeY hMo_unlikeZ hMo_farUp hMo_farDown hMo_axisOf Mo_isThere Mo_stationX Mo_stationY Mo_stationZ Mo_told Mo_weight Mo_size Mo_extra Mo_poles Mo_poleX Mo_poleY Mo_poleZ Mo_pairs Mo_lesser Mo_greater Mo_isKnown Mo_least Mo_kept Mo_misfit Mo_nodal Mo_order Mo_placeOf Mo_axisX Mo_axisY Mo_axisZ Mo_axes Mo_unlikeX Mo_unlikeY Mo_unlikeZ Mo_farUp Mo_farDown Mo_axisOf]) sz) := by
  refine Met.ofW (cc := cX6_station) (maxL := 6) (ret := (some .int)) (by decide) rfl ?_
  intro p e s m args below meth c s₁ B hml hv
  obtain ⟨rfl, hsz, hN, hP, hK, hD0⟩ := hv
  have hx := B.exec
  have hb := B.bytes
  have hr := B.returns
  have hts0 := atoms_spec (ws := wA yX6_station cX6_station 6 (some .int)) B.pre
  have hts := fun w (h : w ∈ wsL_law) => hts0 w (List.mem_cons_of_mem _ h)
  have hown : s.vm.findClass RX6 = some m.cls := findClass_of_methodNamed B.named
  have hlocks := B.notSynchronized
  subst hsz
  have hD := hD0.self (sz := s.heap.size)
  generalize hAe : va_A (List.flatten [wMo cy hMo hMo_isThere hMo_stationX hMo_stationY hMo_stationZ hMo_told hMo_weight hMo_poleX hMo_poleY hMo_poleZ hMo_lesser hMo_greater hMo_misfit hMo_nodal hMo_order hMo_placeOf hMo_unlikeX hMo_unlikeY hMo_unlikeZ hMo_farUp hMo_farDown hMo_axisOf Mo_isThere Mo_stationX Mo_stationY Mo_stationZ Mo_told Mo_weight Mo_size Mo_extra Mo_poles Mo_poleX Mo_poleY Mo_poleZ Mo_pairs Mo_lesser Mo_greater Mo_isKnown Mo_least Mo_kept Mo_misfit Mo_nodal Mo_order Mo_placeOf Mo_axisX Mo_axisY Mo_axisZ Mo_axes Mo_unlikeX Mo_unlikeY Mo_unlikeZ Mo_farUp Mo_farDown Mo_axisOf]) s.heap.size = A at hD ⊢
  have hA : ∀ q : Nat, s.heap.size ≤ q → A q := fun q h => by rw [← hAe]; exact Or.inr h
  have hS : va_S A s.heap s.heap [] := va_S.rf
  have hP : va_P D vwCl (List.flatten [wMo cy hMo hMo_isThere hMo_stationX hMo_stationY hMo_stationZ hMo_told hMo_weight hMo_poleX hMo_poleY hMo_poleZ hMo_lesser hMo_greater hMo_misfit hMo_nodal hMo_order hMo_placeOf hMo_unlikeX hMo_unlikeY hMo_unlikeZ hMo_farUp hMo_farDown hMo_axisOf Mo_isThere Mo_stationX Mo_stationY Mo_stationZ Mo_told Mo_weight Mo_size Mo_extra Mo_poles Mo_poleX Mo_poleY Mo_poleZ Mo_pairs Mo_lesser Mo_greater Mo_isKnown Mo_least Mo_kept Mo_misfit Mo_nodal Mo_order Mo_placeOf Mo_axisX Mo_axisY Mo_axisZ Mo_axes Mo_unlikeX Mo_unlikeY Mo_unlikeZ Mo_farUp Mo_farDown Mo_axisOf]) s.heap := hP
  have hl := lv_entry ([.ref hMo, .int p0, .int p1, .int p2, .int p3]) (n := 6) (Nat.le_of_ble_eq_true rfl)
  rw [lg_entry_eq]
  generalize (lg_sl ([.ref hMo, .int p0, .int p1, .int p2, .int p3]) ++ List.replicate (6 - (lg_sl ([.ref hMo, .int p0, .int p1, .int p2, .int p3])).length) Slot.unset).toArray = ls at hl ⊢
  have hl : lv_has ls 6 [(0, .ref hMo), (1, .int p0), (2, .int p1), (3, .int p2), (4, .int p3)] := hl
  unfold wp_X6_station at hw
  refine lv_iload_n hx hb dX6_station_0 rfl (lv_at hl 1 rfl) ?_
  refine lv_iconst (v := 0) hx hb dX6_station_1 (by decide) ?_
  refine lv_bipush (v := 23) hx hb dX6_station_2 (by decide) ?_
  refine kc_i (va_runS (As := [.int p0, .int (0), .int (23)]) (rest := []) ⟨hx, hb, hml, hown, hts⟩ (k_X6_within l D cy p0 (0 : Int32) (23 : Int32) _ _ hw) (va_cwS 3 hts (gS mw_10_5 mw_10_6 mw_1_5 mw_10_7) rfl rfl rfl (by decide +kernel) ⟨Nat.le_of_ble_eq_true rfl, Nat.le_of_ble_eq_true rfl⟩) (fPre hN hK hP hD [] rfl rfl _) rfl rfl hl.1 rfl (lv_room (Nat.le_of_ble_eq_true rfl)) dX6_station_4 ⟨Nat.zero_le _, Nat.zero_le _⟩) (fun r1 hw => ?_)
  refine lv_if_ne (tgt := 12) hx hb dX6_station_7 (by decide) (fun c5 => ?_) (fun c5 => ?_)
  · have hw := hw.2 c5
    refine lv_iload_n hx hb dX6_station_12 rfl (lv_at hl 2 rfl) ?_
    refine lv_iload_n hx hb dX6_station_13 rfl (lv_at hl 3 rfl) ?_
    refine lv_iload hx hb dX6_station_14 (lv_at hl 4 rfl) ?_
    refine kc_i (va_runS (As := [.int p1, .int p2, .int p3]) (rest := []) ⟨hx, hb, hml, hown, hts⟩ (k_X6_isTriple l D cy p1 p2 p3 _ _ hw) (va_cwS 3 hts (gS mw_10_8 mw_10_9 mw_1_5 mw_10_10) rfl rfl rfl (by decide +kernel) ⟨Nat.le_of_ble_eq_true rfl, Nat.le_of_ble_eq_true rfl⟩) (fPre hN hK hP hD [] rfl rfl _) rfl rfl hl.1 rfl (lv_room (Nat.le_of_ble_eq_true rfl)) dX6_station_16 ⟨Nat.zero_le _, Nat.zero_le _⟩) (fun r2 hw => ?_)
    refine lv_if_ne (tgt := 25) hx hb dX6_station_19 (by decide) (fun c4 => ?_) (fun c4 => ?_)
    · have hw := hw.2 c4
      refine lv_aload_n hx hb dX6_station_25 rfl (lv_at hl 0 rfl) ?_
      refine va_get (D := D) (ci := 6) (v := .ref hMo_isThere) (C := RX6) (T := TX6) (N := 32) hx hb hts inlX6 hown hK hP 0 rfl rfl 0 (by decide) (hts (.fieldLink RX6 7 "SquarePlanesModel" "isThere" "[Z") mw_7_8) (fun _ h9 => h9) rfl dX6_station_26 ?_
      refine lv_iload_n hx hb dX6_station_29 rfl (lv_at hl 1 rfl) ?_
      refine va_zald hx hb hK hP 1 1 rfl rfl hw.1 dX6_station_30 ?_
      have hw := hw.2
      refine lv_if_eq (tgt := 38) hx hb dX6_station_31 (by decide) (fun c3 => ?_) (fun c3 => ?_)
      · have hw := hw.1 c3
        refine lv_iconst (v := 0) hx hb dX6_station_38 (by decide) ?_
        refine lv_istore (lv' := [(5, .int 0), (0, .ref hMo), (1, .int p0), (2, .int p1), (3, .int p2), (4, .int p3)]) hx hb dX6_station_39 hl (by decide) rfl (fun ls hl => ?_)
        refine lv_aload_n hx hb dX6_station_41 rfl (lv_at hl 1 rfl) ?_
        refine va_get (D := D) (ci := 6) (v := .ref hMo_isThere) (C := RX6) (T := TX6) (N := 32) hx hb hts inlX6 hown hK hP 0 rfl rfl 0 (by decide) (hts (.fieldLink RX6 7 "SquarePlanesModel" "isThere" "[Z") mw_7_8) (fun _ h9 => h9) rfl dX6_station_42 ?_
        refine lv_iload_n hx hb dX6_station_45 rfl (lv_at hl 2 rfl) ?_
        refine lv_iconst (v := 1) hx hb dX6_station_46 (by decide) ?_
        refine va_zast hx hb hK hP hD hS 1 1 rfl rfl hw.1 dX6_station_47 (fun H locs hP hD hS => ?_)
        have hw := hw.2
        have hP : va_P D vwCl (List.flatten [wMo cy hMo hMo_isThere hMo_stationX hMo_stationY hMo_stationZ hMo_told hMo_weight hMo_poleX hMo_poleY hMo_poleZ hMo_lesser hMo_greater hMo_misfit hMo_nodal hMo_order hMo_placeOf hMo_unlikeX hMo_unlikeY hMo_unlikeZ hMo_farUp hMo_farDown hMo_axisOf (upd Mo_isThere p0.toNatClampNeg 1) Mo_stationX Mo_stationY Mo_stationZ Mo_told Mo_weight Mo_size Mo_extra Mo_poles Mo_poleX Mo_poleY Mo_poleZ Mo_pairs Mo_lesser Mo_greater Mo_isKnown Mo_least Mo_kept Mo_misfit Mo_nodal Mo_order Mo_placeOf Mo_axisX Mo_axisY Mo_axisZ Mo_axes Mo_unlikeX Mo_unlikeY Mo_unlikeZ Mo_farUp Mo_farDown Mo_axisOf]) H := hP
        have hD : va_D A (List.flatten [wMo cy hMo hMo_isThere hMo_stationX hMo_stationY hMo_stationZ hMo_told hMo_weight hMo_poleX hMo_poleY hMo_poleZ hMo_lesser hMo_greater hMo_misfit hMo_nodal hMo_order hMo_placeOf hMo_unlikeX hMo_unlikeY hMo_unlikeZ hMo_farUp hMo_farDown hMo_axisOf (upd Mo_isThere p0.toNatClampNeg 1) Mo_stationX Mo_stationY Mo_stationZ Mo_told Mo_weight Mo_size Mo_extra Mo_poles Mo_poleX Mo_poleY Mo_poleZ Mo_pairs Mo_lesser Mo_greater Mo_isKnown Mo_least Mo_kept Mo_misfit Mo_nodal Mo_order Mo_placeOf Mo_axisX Mo_axisY Mo_axisZ Mo_axes Mo_unlikeX Mo_unlikeY Mo_unlikeZ Mo_farUp Mo_farDown Mo_axisOf]) := hD
        refine lv_aload_n hx hb dX6_station_48 rfl (lv_at hl 1 rfl) ?_
        refine va_get (D := D) (ci := 6) (v := .ref hMo_stationX) (C := RX6) (T := TX6) (N := 32) hx hb hts inlX6 hown hK hP 0 rfl rfl 1 (by decide) (hts (.fieldLink RX6 13 "SquarePlanesModel" "stationX" "[I") mw_7_9) (fun _ h9 => h9) rfl dX6_station_49 ?_
        refine lv_iload_n hx hb dX6_station_52 rfl (lv_at hl 2 rfl) ?_
        refine lv_iload_n hx hb dX6_station_53 rfl (lv_at hl 3 rfl) ?_
        refine va_iast hx hb hK hP hD hS 2 0 rfl rfl hw.1 dX6_station_54 (fun H locs hP hD hS => ?_)
        have hw := hw.2
        have hP : va_P D vwCl (List.flatten [wMo cy hMo hMo_isThere hMo_stationX hMo_stationY hMo_stationZ hMo_told hMo_weight hMo_poleX hMo_poleY hMo_poleZ hMo_lesser hMo_greater hMo_misfit hMo_nodal hMo_order hMo_placeOf hMo_unlikeX hMo_unlikeY hMo_unlikeZ hMo_farUp hMo_farDown hMo_axisOf (upd Mo_isThere p0.toNatClampNeg 1) (upd Mo_stationX p0.toNatClampNeg p1) Mo_stationY Mo_stationZ Mo_told Mo_weight Mo_size Mo_extra Mo_poles Mo_poleX Mo_poleY Mo_poleZ Mo_pairs Mo_lesser Mo_greater Mo_isKnown Mo_least Mo_kept Mo_misfit Mo_nodal Mo_order Mo_placeOf Mo_axisX Mo_axisY Mo_axisZ Mo_axes Mo_unlikeX Mo_unlikeY Mo_unlikeZ Mo_farUp Mo_farDown Mo_axisOf]) H := hP
        have hD : va_D A (List.flatten [wMo cy hMo hMo_isThere hMo_stationX hMo_stationY hMo_stationZ hMo_told hMo_weight hMo_poleX hMo_poleY hMo_poleZ hMo_lesser hMo_greater hMo_misfit hMo_nodal hMo_order hMo_placeOf hMo_unlikeX hMo_unlikeY hMo_unlikeZ hMo_farUp hMo_farDown hMo_axisOf (upd Mo_isThere p0.toNatClampNeg 1) (upd Mo_stationX p0.toNatClampNeg p1) Mo_stationY Mo_stationZ Mo_told Mo_weight Mo_size Mo_extra Mo_poles Mo_poleX Mo_poleY Mo_poleZ Mo_pairs Mo_lesser Mo_greater Mo_isKnown Mo_least Mo_kept Mo_misfit Mo_nodal Mo_order Mo_placeOf Mo_axisX Mo_axisY Mo_axisZ Mo_axes Mo_unlikeX Mo_unlikeY Mo_unlikeZ Mo_farUp Mo_farDown Mo_axisOf]) := hD
        refine lv_aload_n hx hb dX6_station_55 rfl (lv_at hl 1 rfl) ?_
        refine va_get (D := D) (ci := 6) (v := .ref hMo_stationY) (C := RX6) (T := TX6) (N := 32) hx hb hts inlX6 hown hK hP 0 rfl rfl 2 (by decide) (hts (.fieldLink RX6 17 "SquarePlanesModel" "stationY" "[I") mw_7_10) (fun _ h9 => h9) rfl dX6_station_56 ?_
        refine lv_iload_n hx hb dX6_station_59 rfl (lv_at hl 2 rfl) ?_
        refine lv_iload_n hx hb dX6_station_60 rfl (lv_at hl 4 rfl) ?_
        refine va_iast hx hb hK hP hD hS 3 0 rfl rfl hw.1 dX6_station_61 (fun H locs hP hD hS => ?_)
        have hw := hw.2
        have hP : va_P D vwCl (List.flatten [wMo cy hMo hMo_isThere hMo_stationX hMo_stationY hMo_stationZ hMo_told hMo_weight hMo_poleX hMo_poleY hMo_poleZ hMo_lesser hMo_greater hMo_misfit hMo_nodal hMo_order hMo_placeOf hMo_unlikeX hMo_unlikeY hMo_unlikeZ hMo_farUp hMo_farDown hMo_axisOf (upd Mo_isThere p0.toNatClampNeg 1) (upd Mo_stationX p0.toNatClampNeg p1) (upd Mo_stationY p0.toNatClampNeg p2) Mo_stationZ Mo_told Mo_weight Mo_size Mo_extra Mo_poles Mo_poleX Mo_poleY Mo_poleZ Mo_pairs Mo_lesser Mo_greater Mo_isKnown Mo_least Mo_kept Mo_misfit Mo_nodal Mo_order Mo_placeOf Mo_axisX Mo_axisY Mo_axisZ Mo_axes Mo_unlikeX Mo_unlikeY Mo_unlikeZ Mo_farUp Mo_farDown Mo_axisOf]) H := hP
        have hD : va_D A (List.flatten [wMo cy hMo hMo_isThere hMo_stationX hMo_stationY hMo_stationZ hMo_told hMo_weight hMo_poleX hMo_poleY hMo_poleZ hMo_lesser hMo_greater hMo_misfit hMo_nodal hMo_order hMo_placeOf hMo_unlikeX hMo_unlikeY hMo_unlikeZ hMo_farUp hMo_farDown hMo_axisOf (upd Mo_isThere p0.toNatClampNeg 1) (upd Mo_stationX p0.toNatClampNeg p1) (upd Mo_stationY p0.toNatClampNeg p2) Mo_stationZ Mo_told Mo_weight Mo_size Mo_extra Mo_poles Mo_poleX Mo_poleY Mo_poleZ Mo_pairs Mo_lesser Mo_greater Mo_isKnown Mo_least Mo_kept Mo_misfit Mo_nodal Mo_order Mo_placeOf Mo_axisX Mo_axisY Mo_axisZ Mo_axes Mo_unlikeX Mo_unlikeY Mo_unlikeZ Mo_farUp Mo_farDown Mo_axisOf]) := hD
        refine lv_aload_n hx hb dX6_station_62 rfl (lv_at hl 1 rfl) ?_
        refine va_get (D := D) (ci := 6) (v := .ref hMo_stationZ) (C := RX6) (T := TX6) (N := 32) hx hb hts inlX6 hown hK hP 0 rfl rfl 3 (by decide) (hts (.fieldLink RX6 20 "SquarePlanesModel" "stationZ" "[I") mw_7_11) (fun _ h9 => h9) rfl dX6_station_63 ?_
        refine lv_iload_n hx hb dX6_station_66 rfl (lv_at hl 2 rfl) ?_
        refine lv_iload hx hb dX6_station_67 (lv_at hl 5 rfl) ?_
        refine va_iast hx hb hK hP hD hS 4 0 rfl rfl hw.1 dX6_station_69 (fun H locs hP hD hS => ?_)
        have hw := hw.2
        have hP : va_P D vwCl (List.flatten [wMo cy hMo hMo_isThere hMo_stationX hMo_stationY hMo_stationZ hMo_told hMo_weight hMo_poleX hMo_poleY hMo_poleZ hMo_lesser hMo_greater hMo_misfit hMo_nodal hMo_order hMo_placeOf hMo_unlikeX hMo_unlikeY hMo_unlikeZ hMo_farUp hMo_farDown hMo_axisOf (upd Mo_isThere p0.toNatClampNeg 1) (upd Mo_stationX p0.toNatClampNeg p1) (upd Mo_stationY p0.toNatClampNeg p2) (upd Mo_stationZ p0.toNatClampNeg p3) Mo_told Mo_weight Mo_size Mo_extra Mo_poles Mo_poleX Mo_poleY Mo_poleZ Mo_pairs Mo_lesser Mo_greater Mo_isKnown Mo_least Mo_kept Mo_misfit Mo_nodal Mo_order Mo_placeOf Mo_axisX Mo_axisY Mo_axisZ Mo_axes Mo_unlikeX Mo_unlikeY Mo_unlikeZ Mo_farUp Mo_farDown Mo_axisOf]) H := hP
        have hD : va_D A (List.flatten [wMo cy hMo hMo_isThere hMo_stationX hMo_stationY hMo_stationZ hMo_told hMo_weight hMo_poleX hMo_poleY hMo_poleZ hMo_lesser hMo_greater hMo_misfit hMo_nodal hMo_order hMo_placeOf hMo_unlikeX hMo_unlikeY hMo_unlikeZ hMo_farUp hMo_farDown hMo_axisOf (upd Mo_isThere p0.toNatClampNeg 1) (upd Mo_stationX p0.toNatClampNeg p1) (upd Mo_stationY p0.toNatClampNeg p2) (upd Mo_stationZ p0.toNatClampNeg p3) Mo_told Mo_weight Mo_size Mo_extra Mo_poles Mo_poleX Mo_poleY Mo_poleZ Mo_pairs Mo_lesser Mo_greater Mo_isKnown Mo_least Mo_kept Mo_misfit Mo_nodal Mo_order Mo_placeOf Mo_axisX Mo_axisY Mo_axisZ Mo_axes Mo_unlikeX Mo_unlikeY Mo_unlikeZ Mo_farUp Mo_farDown Mo_axisOf]) := hD
        refine lv_aload_n hx hb dX6_station_70 rfl (lv_at hl 1 rfl) ?_
        refine va_get (D := D) (ci := 6) (v := .ref hMo_told) (C := RX6) (T := TX6) (N := 32) hx hb hts inlX6 hown hK hP 0 rfl rfl 4 (by decide) (hts (.fieldLink RX6 23 "SquarePlanesModel" "told" "[I") mw_7_12) (fun _ h9 => h9) rfl dX6_station_71 ?_
        refine lv_iload_n hx hb dX6_station_74 rfl (lv_at hl 2 rfl) ?_
        refine lv_iconst (v := 0) hx hb dX6_station_75 (by decide) ?_
        refine va_iast hx hb hK hP hD hS 5 0 rfl rfl hw.1 dX6_station_76 (fun H locs hP hD hS => ?_)
        have hw := hw.2
        have hP : va_P D vwCl (List.flatten [wMo cy hMo hMo_isThere hMo_stationX hMo_stationY hMo_stationZ hMo_told hMo_weight hMo_poleX hMo_poleY hMo_poleZ hMo_lesser hMo_greater hMo_misfit hMo_nodal hMo_order hMo_placeOf hMo_unlikeX hMo_unlikeY hMo_unlikeZ hMo_farUp hMo_farDown hMo_axisOf (upd Mo_isThere p0.toNatClampNeg 1) (upd Mo_stationX p0.toNatClampNeg p1) (upd Mo_stationY p0.toNatClampNeg p2) (upd Mo_stationZ p0.toNatClampNeg p3) (upd Mo_told p0.toNatClampNeg 0) Mo_weight Mo_size Mo_extra Mo_poles Mo_poleX Mo_poleY Mo_poleZ Mo_pairs Mo_lesser Mo_greater Mo_isKnown Mo_least Mo_kept Mo_misfit Mo_nodal Mo_order Mo_placeOf Mo_axisX Mo_axisY Mo_axisZ Mo_axes Mo_unlikeX Mo_unlikeY Mo_unlikeZ Mo_farUp Mo_farDown Mo_axisOf]) H := hP
        have hD : va_D A (List.flatten [wMo cy hMo hMo_isThere hMo_stationX hMo_stationY hMo_stationZ hMo_told hMo_weight hMo_poleX hMo_poleY hMo_poleZ hMo_lesser hMo_greater hMo_misfit hMo_nodal hMo_order hMo_placeOf hMo_unlikeX hMo_unlikeY hMo_unlikeZ hMo_farUp hMo_farDown hMo_axisOf (upd Mo_isThere p0.toNatClampNeg 1) (upd Mo_stationX p0.toNatClampNeg p1) (upd Mo_stationY p0.toNatClampNeg p2) (upd Mo_stationZ p0.toNatClampNeg p3) (upd Mo_told p0.toNatClampNeg 0) Mo_weight Mo_size Mo_extra Mo_poles Mo_poleX Mo_poleY Mo_poleZ Mo_pairs Mo_lesser Mo_greater Mo_isKnown Mo_least Mo_kept Mo_misfit Mo_nodal Mo_order Mo_placeOf Mo_axisX Mo_axisY Mo_axisZ Mo_axes Mo_unlikeX Mo_unlikeY Mo_unlikeZ Mo_farUp Mo_farDown Mo_axisOf]) := hD
        refine lv_aload_n hx hb dX6_station_77 rfl (lv_at hl 1 rfl) ?_
        refine va_get (D := D) (ci := 6) (v := .ref hMo_weight) (C := RX6) (T := TX6) (N := 32) hx hb hts inlX6 hown hK hP 0 rfl rfl 5 (by decide) (hts (.fieldLink RX6 26 "SquarePlanesModel" "weight" "[I") mw_7_13) (fun _ h9 => h9) rfl dX6_station_78 ?_
        refine lv_iload_n hx hb dX6_station_81 rfl (lv_at hl 2 rfl) ?_
        refine lv_iconst (v := 1) hx hb dX6_station_82 (by decide) ?_
        refine va_iast hx hb hK hP hD hS 6 0 rfl rfl hw.1 dX6_station_83 (fun H locs hP hD hS => ?_)
        have hw := hw.2
        have hP : va_P D vwCl (List.flatten [wMo cy hMo hMo_isThere hMo_stationX hMo_stationY hMo_stationZ hMo_told hMo_weight hMo_poleX hMo_poleY hMo_poleZ hMo_lesser hMo_greater hMo_misfit hMo_nodal hMo_order hMo_placeOf hMo_unlikeX hMo_unlikeY hMo_unlikeZ hMo_farUp hMo_farDown hMo_axisOf (upd Mo_isThere p0.toNatClampNeg 1) (upd Mo_stationX p0.toNatClampNeg p1) (upd Mo_stationY p0.toNatClampNeg p2) (upd Mo_stationZ p0.toNatClampNeg p3) (upd Mo_told p0.toNatClampNeg 0) (upd Mo_weight p0.toNatClampNeg 1) Mo_size Mo_extra Mo_poles Mo_poleX Mo_poleY Mo_poleZ Mo_pairs Mo_lesser Mo_greater Mo_isKnown Mo_least Mo_kept Mo_misfit Mo_nodal Mo_order Mo_placeOf Mo_axisX Mo_axisY Mo_axisZ Mo_axes Mo_unlikeX Mo_unlikeY Mo_unlikeZ Mo_farUp Mo_farDown Mo_axisOf]) H := hP
        have hD : va_D A (List.flatten [wMo cy hMo hMo_isThere hMo_stationX hMo_stationY hMo_stationZ hMo_told hMo_weight hMo_poleX hMo_poleY hMo_poleZ hMo_lesser hMo_greater hMo_misfit hMo_nodal hMo_order hMo_placeOf hMo_unlikeX hMo_unlikeY hMo_unlikeZ hMo_farUp hMo_farDown hMo_axisOf (upd Mo_isThere p0.toNatClampNeg 1) (upd Mo_stationX p0.toNatClampNeg p1) (upd Mo_stationY p0.toNatClampNeg p2) (upd Mo_stationZ p0.toNatClampNeg p3) (upd Mo_told p0.toNatClampNeg 0) (upd Mo_weight p0.toNatClampNeg 1) Mo_size Mo_extra Mo_poles Mo_poleX Mo_poleY Mo_poleZ Mo_pairs Mo_lesser Mo_greater Mo_isKnown Mo_least Mo_kept Mo_misfit Mo_nodal Mo_order Mo_placeOf Mo_axisX Mo_axisY Mo_axisZ Mo_axes Mo_unlikeX Mo_unlikeY Mo_unlikeZ Mo_farUp Mo_farDown Mo_axisOf]) := hD
        refine lv_aload_n hx hb dX6_station_84 rfl (lv_at hl 1 rfl) ?_
        refine lv_iconst (v := 0) hx hb dX6_station_85 (by decide) ?_
        refine va_put (D := D) (ci := 6) (v := .int 0) (ty := tyX6 15) (C := RX6) (T := TX6) (N := 32) hx hb hts inlX6 tyX6 tyX6_ok nmX6 hown hK hP hD hS 0 rfl rfl 15 (by decide) (hts (.fieldLink RX6 93 "SquarePlanesModel" "isKnown" "Z") mw_8_13) (fun _ h9 => h9) rfl (tyX6_ok 15 (by decide)) rfl rfl (Nat.le_of_ble_eq_true rfl) dX6_station_86 (fun H locs hP hD hS => ?_)
        have hP : va_P D vwCl (List.flatten [wMo cy hMo hMo_isThere hMo_stationX hMo_stationY hMo_stationZ hMo_told hMo_weight hMo_poleX hMo_poleY hMo_poleZ hMo_lesser hMo_greater hMo_misfit hMo_nodal hMo_order hMo_placeOf hMo_unlikeX hMo_unlikeY hMo_unlikeZ hMo_farUp hMo_farDown hMo_axisOf (upd Mo_isThere p0.toNatClampNeg 1) (upd Mo_stationX p0.toNatClampNeg p1) (upd Mo_stationY p0.toNatClampNeg p2) (upd Mo_stationZ p0.toNatClampNeg p3) (upd Mo_told p0.toNatClampNeg 0) (upd Mo_weight p0.toNatClampNeg 1) Mo_size Mo_extra Mo_poles Mo_poleX Mo_poleY Mo_poleZ Mo_pairs Mo_lesser Mo_greater 0 Mo_least Mo_kept Mo_misfit Mo_nodal Mo_order Mo_placeOf Mo_axisX Mo_axisY Mo_axisZ Mo_axes Mo_unlikeX Mo_unlikeY Mo_unlikeZ Mo_farUp Mo_farDown Mo_axisOf]) H := hP
        have hD : va_D A (List.flatten [wMo cy hMo hMo_isThere hMo_stationX hMo_stationY hMo_stationZ hMo_told hMo_weight hMo_poleX hMo_poleY hMo_poleZ hMo_lesser hMo_greater hMo_misfit hMo_nodal hMo_order hMo_placeOf hMo_unlikeX hMo_unlikeY hMo_unlikeZ hMo_farUp hMo_farDown hMo_axisOf (upd Mo_isThere p0.toNatClampNeg 1) (upd Mo_stationX p0.toNatClampNeg p1) (upd Mo_stationY p0.toNatClampNeg p2) (upd Mo_stationZ p0.toNatClampNeg p3) (upd Mo_told p0.toNatClampNeg 0) (upd Mo_weight p0.toNatClampNeg 1) Mo_size Mo_extra Mo_poles Mo_poleX Mo_poleY Mo_poleZ Mo_pairs Mo_lesser Mo_greater 0 Mo_least Mo_kept Mo_misfit Mo_nodal Mo_order Mo_placeOf Mo_axisX Mo_axisY Mo_axisZ Mo_axes Mo_unlikeX Mo_unlikeY Mo_unlikeZ Mo_farUp Mo_farDown Mo_axisOf]) := hD
        refine lv_iload hx hb dX6_station_89 (lv_at hl 0 rfl) ?_
        exact W.iret (v := 0) hx hb hr (fun t ht hW => ⟨⟨0, (upd Mo_isThere p0.toNatClampNeg 1, upd Mo_stationX p0.toNatClampNeg p1, upd Mo_stationY p0.toNatClampNeg p2, upd Mo_stationZ p0.toNatClampNeg p3, upd Mo_told p0.toNatClampNeg 0, upd Mo_weight p0.toNatClampNeg 1, 0), rfl, hw, ⟨by rw [ht]; exact hP, va_K.moved hW.alike hK, hD⟩⟩, hS.F ht⟩) hS.2.2 dX6_station_91
      · have hw := hw.2 c3
        refine lv_iconst (v := 1) hx hb dX6_station_34 (by decide) ?_
        refine lv_goto (tgt := 39) hx hb dX6_station_35 (by decide) ?_
        refine lv_istore (lv' := [(5, .int 1), (0, .ref hMo), (1, .int p0), (2, .int p1), (3, .int p2), (4, .int p3)]) hx hb dX6_station_39 hl (by decide) rfl (fun ls hl => ?_)
        refine lv_aload_n hx hb dX6_station_41 rfl (lv_at hl 1 rfl) ?_
        refine va_get (D := D) (ci := 6) (v := .ref hMo_isThere) (C := RX6) (T := TX6) (N := 32) hx hb hts inlX6 hown hK hP 0 rfl rfl 0 (by decide) (hts (.fieldLink RX6 7 "SquarePlanesModel" "isThere" "[Z") mw_7_8) (fun _ h9 => h9) rfl dX6_station_42 ?_
        refine lv_iload_n hx hb dX6_station_45 rfl (lv_at hl 2 rfl) ?_
        refine lv_iconst (v := 1) hx hb dX6_station_46 (by decide) ?_
        refine va_zast hx hb hK hP hD hS 1 1 rfl rfl hw.1 dX6_station_47 (fun H locs hP hD hS => ?_)
        have hw := hw.2
        have hP : va_P D vwCl (List.flatten [wMo cy hMo hMo_isThere hMo_stationX hMo_stationY hMo_stationZ hMo_told hMo_weight hMo_poleX hMo_poleY hMo_poleZ hMo_lesser hMo_greater hMo_misfit hMo_nodal hMo_order hMo_placeOf hMo_unlikeX hMo_unlikeY hMo_unlikeZ hMo_farUp hMo_farDown hMo_axisOf (upd Mo_isThere p0.toNatClampNeg 1) Mo_stationX Mo_stationY Mo_stationZ Mo_told Mo_weight Mo_size Mo_extra Mo_poles Mo_poleX Mo_poleY Mo_poleZ Mo_pairs Mo_lesser Mo_greater Mo_isKnown Mo_least Mo_kept Mo_misfit Mo_nodal Mo_order Mo_placeOf Mo_axisX Mo_axisY Mo_axisZ Mo_axes Mo_unlikeX Mo_unlikeY Mo_unlikeZ Mo_farUp Mo_farDown Mo_axisOf]) H := hP
        have hD : va_D A (List.flatten [wMo cy hMo hMo_isThere hMo_stationX hMo_stationY hMo_stationZ hMo_told hMo_weight hMo_poleX hMo_poleY hMo_poleZ hMo_lesser hMo_greater hMo_misfit hMo_nodal hMo_order hMo_placeOf hMo_unlikeX hMo_unlikeY hMo_unlikeZ hMo_farUp hMo_farDown hMo_axisOf (upd Mo_isThere p0.toNatClampNeg 1) Mo_stationX Mo_stationY Mo_stationZ Mo_told Mo_weight Mo_size Mo_extra Mo_poles Mo_poleX Mo_poleY Mo_poleZ Mo_pairs Mo_lesser Mo_greater Mo_isKnown Mo_least Mo_kept Mo_misfit Mo_nodal Mo_order Mo_placeOf Mo_axisX Mo_axisY Mo_axisZ Mo_axes Mo_unlikeX Mo_unlikeY Mo_unlikeZ Mo_farUp Mo_farDown Mo_axisOf]) := hD
        refine lv_aload_n hx hb dX6_station_48 rfl (lv_at hl 1 rfl) ?_
        refine va_get (D := D) (ci := 6) (v := .ref hMo_stationX) (C := RX6) (T := TX6) (N := 32) hx hb hts inlX6 hown hK hP 0 rfl rfl 1 (by decide) (hts (.fieldLink RX6 13 "SquarePlanesModel" "stationX" "[I") mw_7_9) (fun _ h9 => h9) rfl dX6_station_49 ?_
        refine lv_iload_n hx hb dX6_station_52 rfl (lv_at hl 2 rfl) ?_
        refine lv_iload_n hx hb dX6_station_53 rfl (lv_at hl 3 rfl) ?_
        refine va_iast hx hb hK hP hD hS 2 0 rfl rfl hw.1 dX6_station_54 (fun H locs hP hD hS => ?_)
        have hw := hw.2
        have hP : va_P D vwCl (List.flatten [wMo cy hMo hMo_isThere hMo_stationX hMo_stationY hMo_stationZ hMo_told hMo_weight hMo_poleX hMo_poleY hMo_poleZ hMo_lesser hMo_greater hMo_misfit hMo_nodal hMo_order hMo_placeOf hMo_unlikeX hMo_unlikeY hMo_unlikeZ hMo_farUp hMo_farDown hMo_axisOf (upd Mo_isThere p0.toNatClampNeg 1) (upd Mo_stationX p0.toNatClampNeg p1) Mo_stationY Mo_stationZ Mo_told Mo_weight Mo_size Mo_extra Mo_poles Mo_poleX Mo_poleY Mo_poleZ Mo_pairs Mo_lesser Mo_greater Mo_isKnown Mo_least Mo_kept Mo_misfit Mo_nodal Mo_order Mo_placeOf Mo_axisX Mo_axisY Mo_axisZ Mo_axes Mo_unlikeX Mo_unlikeY Mo_unlikeZ Mo_farUp Mo_farDown Mo_axisOf]) H := hP
        have hD : va_D A (List.flatten [wMo cy hMo hMo_isThere hMo_stationX hMo_stationY hMo_stationZ hMo_told hMo_weight hMo_poleX hMo_poleY hMo_poleZ hMo_lesser hMo_greater hMo_misfit hMo_nodal hMo_order hMo_placeOf hMo_unlikeX hMo_unlikeY hMo_unlikeZ hMo_farUp hMo_farDown hMo_axisOf (upd Mo_isThere p0.toNatClampNeg 1) (upd Mo_stationX p0.toNatClampNeg p1) Mo_stationY Mo_stationZ Mo_told Mo_weight Mo_size Mo_extra Mo_poles Mo_poleX Mo_poleY Mo_poleZ Mo_pairs Mo_lesser Mo_greater Mo_isKnown Mo_least Mo_kept Mo_misfit Mo_nodal Mo_order Mo_placeOf Mo_axisX Mo_axisY Mo_axisZ Mo_axes Mo_unlikeX Mo_unlikeY Mo_unlikeZ Mo_farUp Mo_farDown Mo_axisOf]) := hD
        refine lv_aload_n hx hb dX6_station_55 rfl (lv_at hl 1 rfl) ?_
        refine va_get (D := D) (ci := 6) (v := .ref hMo_stationY) (C := RX6) (T := TX6) (N := 32) hx hb hts inlX6 hown hK hP 0 rfl rfl 2 (by decide) (hts (.fieldLink RX6 17 "SquarePlanesModel" "stationY" "[I") mw_7_10) (fun _ h9 => h9) rfl dX6_station_56 ?_
        refine lv_iload_n hx hb dX6_station_59 rfl (lv_at hl 2 rfl) ?_
        refine lv_iload_n hx hb dX6_station_60 rfl (lv_at hl 4 rfl) ?_
        refine va_iast hx hb hK hP hD hS 3 0 rfl rfl hw.1 dX6_station_61 (fun H locs hP hD hS => ?_)
        have hw := hw.2
        have hP : va_P D vwCl (List.flatten [wMo cy hMo hMo_isThere hMo_stationX hMo_stationY hMo_stationZ hMo_told hMo_weight hMo_poleX hMo_poleY hMo_poleZ hMo_lesser hMo_greater hMo_misfit hMo_nodal hMo_order hMo_placeOf hMo_unlikeX hMo_unlikeY hMo_unlikeZ hMo_farUp hMo_farDown hMo_axisOf (upd Mo_isThere p0.toNatClampNeg 1) (upd Mo_stationX p0.toNatClampNeg p1) (upd Mo_stationY p0.toNatClampNeg p2) Mo_stationZ Mo_told Mo_weight Mo_size Mo_extra Mo_poles Mo_poleX Mo_poleY Mo_poleZ Mo_pairs Mo_lesser Mo_greater Mo_isKnown Mo_least Mo_kept Mo_misfit Mo_nodal Mo_order Mo_placeOf Mo_axisX Mo_axisY Mo_axisZ Mo_axes Mo_unlikeX Mo_unlikeY Mo_unlikeZ Mo_farUp Mo_farDown Mo_axisOf]) H := hP
        have hD : va_D A (List.flatten [wMo cy hMo hMo_isThere hMo_stationX hMo_stationY hMo_stationZ hMo_told hMo_weight hMo_poleX hMo_poleY hMo_poleZ hMo_lesser hMo_greater hMo_misfit hMo_nodal hMo_order hMo_placeOf hMo_unlikeX hMo_unlikeY hMo_unlikeZ hMo_farUp hMo_farDown hMo_axisOf (upd Mo_isThere p0.toNatClampNeg 1) (upd Mo_stationX p0.toNatClampNeg p1) (upd Mo_stationY p0.toNatClampNeg p2) Mo_stationZ Mo_told Mo_weight Mo_size Mo_extra Mo_poles Mo_poleX Mo_poleY Mo_poleZ Mo_pairs Mo_lesser Mo_greater Mo_isKnown Mo_least Mo_kept Mo_misfit Mo_nodal Mo_order Mo_placeOf Mo_axisX Mo_axisY Mo_axisZ Mo_axes Mo_unlikeX Mo_unlikeY Mo_unlikeZ Mo_farUp Mo_farDown Mo_axisOf]) := hD
        refine lv_aload_n hx hb dX6_station_62 rfl (lv_at hl 1 rfl) ?_
        refine va_get (D := D) (ci := 6) (v := .ref hMo_stationZ) (C := RX6) (T := TX6) (N := 32) hx hb hts inlX6 hown hK hP 0 rfl rfl 3 (by decide) (hts (.fieldLink RX6 20 "SquarePlanesModel" "stationZ" "[I") mw_7_11) (fun _ h9 => h9) rfl dX6_station_63 ?_
        refine lv_iload_n hx hb dX6_station_66 rfl (lv_at hl 2 rfl) ?_
        refine lv_iload hx hb dX6_station_67 (lv_at hl 5 rfl) ?_
        refine va_iast hx hb hK hP hD hS 4 0 rfl rfl hw.1 dX6_station_69 (fun H locs hP hD hS => ?_)
        have hw := hw.2
        have hP : va_P D vwCl (List.flatten [wMo cy hMo hMo_isThere hMo_stationX hMo_stationY hMo_stationZ hMo_told hMo_weight hMo_poleX hMo_poleY hMo_poleZ hMo_lesser hMo_greater hMo_misfit hMo_nodal hMo_order hMo_placeOf hMo_unlikeX hMo_unlikeY hMo_unlikeZ hMo_farUp hMo_farDown hMo_axisOf (upd Mo_isThere p0.toNatClampNeg 1) (upd Mo_stationX p0.toNatClampNeg p1) (upd Mo_stationY p0.toNatClampNeg p2) (upd Mo_stationZ p0.toNatClampNeg p3) Mo_told Mo_weight Mo_size Mo_extra Mo_poles Mo_poleX Mo_poleY Mo_poleZ Mo_pairs Mo_lesser Mo_greater Mo_isKnown Mo_least Mo_kept Mo_misfit Mo_nodal Mo_order Mo_placeOf Mo_axisX Mo_axisY Mo_axisZ Mo_axes Mo_unlikeX Mo_unlikeY Mo_unlikeZ Mo_farUp Mo_farDown Mo_axisOf]) H := hP
        have hD : va_D A (List.flatten [wMo cy hMo hMo_isThere hMo_stationX hMo_stationY hMo_stationZ hMo_told hMo_weight hMo_poleX hMo_poleY hMo_poleZ hMo_lesser hMo_greater hMo_misfit hMo_nodal hMo_order hMo_placeOf hMo_unlikeX hMo_unlikeY hMo_unlikeZ hMo_farUp hMo_farDown hMo_axisOf (upd Mo_isThere p0.toNatClampNeg 1) (upd Mo_stationX p0.toNatClampNeg p1) (upd Mo_stationY p0.toNatClampNeg p2) (upd Mo_stationZ p0.toNatClampNeg p3) Mo_told Mo_weight Mo_size Mo_extra Mo_poles Mo_poleX Mo_poleY Mo_poleZ Mo_pairs Mo_lesser Mo_greater Mo_isKnown Mo_least Mo_kept Mo_misfit Mo_nodal Mo_order Mo_placeOf Mo_axisX Mo_axisY Mo_axisZ Mo_axes Mo_unlikeX Mo_unlikeY Mo_unlikeZ Mo_farUp Mo_farDown Mo_axisOf]) := hD
        refine lv_aload_n hx hb dX6_station_70 rfl (lv_at hl 1 rfl) ?_
        refine va_get (D := D) (ci := 6) (v := .ref hMo_told) (C := RX6) (T := TX6) (N := 32) hx hb hts inlX6 hown hK hP 0 rfl rfl 4 (by decide) (hts (.fieldLink RX6 23 "SquarePlanesModel" "told" "[I") mw_7_12) (fun _ h9 => h9) rfl dX6_station_71 ?_
        refine lv_iload_n hx hb dX6_station_74 rfl (lv_at hl 2 rfl) ?_
        refine lv_iconst (v := 0) hx hb dX6_station_75 (by decide) ?_
        refine va_iast hx hb hK hP hD hS 5 0 rfl rfl hw.1 dX6_station_76 (fun H locs hP hD hS => ?_)
        have hw := hw.2
        have hP : va_P D vwCl (List.flatten [wMo cy hMo hMo_isThere hMo_stationX hMo_stationY hMo_stationZ hMo_told hMo_weight hMo_poleX hMo_poleY hMo_poleZ hMo_lesser hMo_greater hMo_misfit hMo_nodal hMo_order hMo_placeOf hMo_unlikeX hMo_unlikeY hMo_unlikeZ hMo_farUp hMo_farDown hMo_axisOf (upd Mo_isThere p0.toNatClampNeg 1) (upd Mo_stationX p0.toNatClampNeg p1) (upd Mo_stationY p0.toNatClampNeg p2) (upd Mo_stationZ p0.toNatClampNeg p3) (upd Mo_told p0.toNatClampNeg 0) Mo_weight Mo_size Mo_extra Mo_poles Mo_poleX Mo_poleY Mo_poleZ Mo_pairs Mo_lesser Mo_greater Mo_isKnown Mo_least Mo_kept Mo_misfit Mo_nodal Mo_order Mo_placeOf Mo_axisX Mo_axisY Mo_axisZ Mo_axes Mo_unlikeX Mo_unlikeY Mo_unlikeZ Mo_farUp Mo_farDown Mo_axisOf]) H := hP
        have hD : va_D A (List.flatten [wMo cy hMo hMo_isThere hMo_stationX hMo_stationY hMo_stationZ hMo_told hMo_weight hMo_poleX hMo_poleY hMo_poleZ hMo_lesser hMo_greater hMo_misfit hMo_nodal hMo_order hMo_placeOf hMo_unlikeX hMo_unlikeY hMo_unlikeZ hMo_farUp hMo_farDown hMo_axisOf (upd Mo_isThere p0.toNatClampNeg 1) (upd Mo_stationX p0.toNatClampNeg p1) (upd Mo_stationY p0.toNatClampNeg p2) (upd Mo_stationZ p0.toNatClampNeg p3) (upd Mo_told p0.toNatClampNeg 0) Mo_weight Mo_size Mo_extra Mo_poles Mo_poleX Mo_poleY Mo_poleZ Mo_pairs Mo_lesser Mo_greater Mo_isKnown Mo_least Mo_kept Mo_misfit Mo_nodal Mo_order Mo_placeOf Mo_axisX Mo_axisY Mo_axisZ Mo_axes Mo_unlikeX Mo_unlikeY Mo_unlikeZ Mo_farUp Mo_farDown Mo_axisOf]) := hD
        refine lv_aload_n hx hb dX6_station_77 rfl (lv_at hl 1 rfl) ?_
        refine va_get (D := D) (ci := 6) (v := .ref hMo_weight) (C := RX6) (T := TX6) (N := 32) hx hb hts inlX6 hown hK hP 0 rfl rfl 5 (by decide) (hts (.fieldLink RX6 26 "SquarePlanesModel" "weight" "[I") mw_7_13) (fun _ h9 => h9) rfl dX6_station_78 ?_
        refine lv_iload_n hx hb dX6_station_81 rfl (lv_at hl 2 rfl) ?_
        refine lv_iconst (v := 1) hx hb dX6_station_82 (by decide) ?_
        refine va_iast hx hb hK hP hD hS 6 0 rfl rfl hw.1 dX6_station_83 (fun H locs hP hD hS => ?_)
        have hw := hw.2
        have hP : va_P D vwCl (List.flatten [wMo cy hMo hMo_isThere hMo_stationX hMo_stationY hMo_stationZ hMo_told hMo_weight hMo_poleX hMo_poleY hMo_poleZ hMo_lesser hMo_greater hMo_misfit hMo_nodal hMo_order hMo_placeOf hMo_unlikeX hMo_unlikeY hMo_unlikeZ hMo_farUp hMo_farDown hMo_axisOf (upd Mo_isThere p0.toNatClampNeg 1) (upd Mo_stationX p0.toNatClampNeg p1) (upd Mo_stationY p0.toNatClampNeg p2) (upd Mo_stationZ p0.toNatClampNeg p3) (upd Mo_told p0.toNatClampNeg 0) (upd Mo_weight p0.toNatClampNeg 1) Mo_size Mo_extra Mo_poles Mo_poleX Mo_poleY Mo_poleZ Mo_pairs Mo_lesser Mo_greater Mo_isKnown Mo_least Mo_kept Mo_misfit Mo_nodal Mo_order Mo_placeOf Mo_axisX Mo_axisY Mo_axisZ Mo_axes Mo_unlikeX Mo_unlikeY Mo_unlikeZ Mo_farUp Mo_farDown Mo_axisOf]) H := hP
        have hD : va_D A (List.flatten [wMo cy hMo hMo_isThere hMo_stationX hMo_stationY hMo_stationZ hMo_told hMo_weight hMo_poleX hMo_poleY hMo_poleZ hMo_lesser hMo_greater hMo_misfit hMo_nodal hMo_order hMo_placeOf hMo_unlikeX hMo_unlikeY hMo_unlikeZ hMo_farUp hMo_farDown hMo_axisOf (upd Mo_isThere p0.toNatClampNeg 1) (upd Mo_stationX p0.toNatClampNeg p1) (upd Mo_stationY p0.toNatClampNeg p2) (upd Mo_stationZ p0.toNatClampNeg p3) (upd Mo_told p0.toNatClampNeg 0) (upd Mo_weight p0.toNatClampNeg 1) Mo_size Mo_extra Mo_poles Mo_poleX Mo_poleY Mo_poleZ Mo_pairs Mo_lesser Mo_greater Mo_isKnown Mo_least Mo_kept Mo_misfit Mo_nodal Mo_order Mo_placeOf Mo_axisX Mo_axisY Mo_axisZ Mo_axes Mo_unlikeX Mo_unlikeY Mo_unlikeZ Mo_farUp Mo_farDown Mo_axisOf]) := hD
        refine lv_aload_n hx hb dX6_station_84 rfl (lv_at hl 1 rfl) ?_
        refine lv_iconst (v := 0) hx hb dX6_station_85 (by decide) ?_
        refine va_put (D := D) (ci := 6) (v := .int 0) (ty := tyX6 15) (C := RX6) (T := TX6) (N := 32) hx hb hts inlX6 tyX6 tyX6_ok nmX6 hown hK hP hD hS 0 rfl rfl 15 (by decide) (hts (.fieldLink RX6 93 "SquarePlanesModel" "isKnown" "Z") mw_8_13) (fun _ h9 => h9) rfl (tyX6_ok 15 (by decide)) rfl rfl (Nat.le_of_ble_eq_true rfl) dX6_station_86 (fun H locs hP hD hS => ?_)
        have hP : va_P D vwCl (List.flatten [wMo cy hMo hMo_isThere hMo_stationX hMo_stationY hMo_stationZ hMo_told hMo_weight hMo_poleX hMo_poleY hMo_poleZ hMo_lesser hMo_greater hMo_misfit hMo_nodal hMo_order hMo_placeOf hMo_unlikeX hMo_unlikeY hMo_unlikeZ hMo_farUp hMo_farDown hMo_axisOf (upd Mo_isThere p0.toNatClampNeg 1) (upd Mo_stationX p0.toNatClampNeg p1) (upd Mo_stationY p0.toNatClampNeg p2) (upd Mo_stationZ p0.toNatClampNeg p3) (upd Mo_told p0.toNatClampNeg 0) (upd Mo_weight p0.toNatClampNeg 1) Mo_size Mo_extra Mo_poles Mo_poleX Mo_poleY Mo_poleZ Mo_pairs Mo_lesser Mo_greater 0 Mo_least Mo_kept Mo_misfit Mo_nodal Mo_order Mo_placeOf Mo_axisX Mo_axisY Mo_axisZ Mo_axes Mo_unlikeX Mo_unlikeY Mo_unlikeZ Mo_farUp Mo_farDown Mo_axisOf]) H := hP
        have hD : va_D A (List.flatten [wMo cy hMo hMo_isThere hMo_stationX hMo_stationY hMo_stationZ hMo_told hMo_weight hMo_poleX hMo_poleY hMo_poleZ hMo_lesser hMo_greater hMo_misfit hMo_nodal hMo_order hMo_placeOf hMo_unlikeX hMo_unlikeY hMo_unlikeZ hMo_farUp hMo_farDown hMo_axisOf (upd Mo_isThere p0.toNatClampNeg 1) (upd Mo_stationX p0.toNatClampNeg p1) (upd Mo_stationY p0.toNatClampNeg p2) (upd Mo_stationZ p0.toNatClampNeg p3) (upd Mo_told p0.toNatClampNeg 0) (upd Mo_weight p0.toNatClampNeg 1) Mo_size Mo_extra Mo_poles Mo_poleX Mo_poleY Mo_poleZ Mo_pairs Mo_lesser Mo_greater 0 Mo_least Mo_kept Mo_misfit Mo_nodal Mo_order Mo_placeOf Mo_axisX Mo_axisY Mo_axisZ Mo_axes Mo_unlikeX Mo_unlikeY Mo_unlikeZ Mo_farUp Mo_farDown Mo_axisOf]) := hD
        refine lv_iload hx hb dX6_station_89 (lv_at hl 0 rfl) ?_
        exact W.iret (v := 1) hx hb hr (fun t ht hW => ⟨⟨1, (upd Mo_isThere p0.toNatClampNeg 1, upd Mo_stationX p0.toNatClampNeg p1, upd Mo_stationY p0.toNatClampNeg p2, upd Mo_stationZ p0.toNatClampNeg p3, upd Mo_told p0.toNatClampNeg 0, upd Mo_weight p0.toNatClampNeg 1, 0), rfl, hw, ⟨by rw [ht]; exact hP, va_K.moved hW.alike hK, hD⟩⟩, hS.F ht⟩) hS.2.2 dX6_station_91
    · have hw := hw.1 c4
      refine lv_bipush (v := (-2)) hx hb dX6_station_22 (by decide) ?_
      exact W.iret (v := (-2)) hx hb hr (fun t ht hW => ⟨⟨(-2), (Mo_isThere, Mo_stationX, Mo_stationY, Mo_stationZ, Mo_told, Mo_weight, Mo_isKnown), rfl, hw, ⟨by rw [ht]; exact hP, va_K.moved hW.alike hK, hD⟩⟩, hS.F ht⟩) hS.2.2 dX6_station_24
  · have hw := hw.1 c5
    refine lv_iconst (v := (-1)) hx hb dX6_station_10 (by decide) ?_
    exact W.iret (v := (-1)) hx hb hr (fun t ht hW => ⟨⟨(-1), (Mo_isThere, Mo_stationX, Mo_stationY, Mo_stationZ, Mo_told, Mo_weight, Mo_isKnown), rfl, hw, ⟨by rw [ht]; exact hP, va_K.moved hW.alike hK, hD⟩⟩, hS.F ht⟩) hS.2.2 dX6_station_11
