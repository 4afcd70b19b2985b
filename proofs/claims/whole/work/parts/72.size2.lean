/-! LEVEL 3: size of the class -/
set_option maxHeartbeats 4000000 in
set_option maxRecDepth 100000 in
theorem k_X5_size_o (l : Launch) (D : va_G) (cy : Nat → ClassId) (hSP hSPr hSt hPo hRa : Nat) (rk : Nat → Option Nat) (sn en ve : Int32) (sz : Nat) (v : Int32) (hv0 : ¬ isV v) : Met l yX5_size (wA yX5_size cX5_size 3 (some .int)) { frames := 6, cells := 0, slots := 0, locals := 141 } (kPc [.ref hSP, .int v] D cy (List.flatten [wSP cy hSP hSPr hSt hPo hRa rk sn en ve]) sz) (kSi (fun r => r = -2)) 0 0 (fun _ => False) := by
  refine Met.ofW (cc := cX5_size) (maxL := 3) (ret := (some .int)) (by decide) rfl ?_
  intro p e s m args below meth c s₁ B hml hv
  obtain ⟨rfl, hsz, hN, hP, hK, hD0⟩ := hv
  have hx := B.exec
  have hb := B.bytes
  have hr := B.returns
  have hts0 := atoms_spec (ws := wA yX5_size cX5_size 3 (some .int)) B.pre
  have hts := fun w (h : w ∈ wsL_law) => hts0 w (List.mem_cons_of_mem _ h)
  have hown : s.vm.findClass RX5 = some m.cls := findClass_of_methodNamed B.named
  have hlocks := B.notSynchronized
  subst hsz
  have hD := hD0.self (sz := s.heap.size)
  have hl := lv_entry ([.ref hSP, .int v]) (n := 3) (Nat.le_of_ble_eq_true rfl)
  rw [lg_entry_eq]
  generalize (lg_sl ([.ref hSP, .int v]) ++ List.replicate (3 - (lg_sl ([.ref hSP, .int v])).length) Slot.unset).toArray = ls at hl ⊢
  have hl : lv_has ls 3 [(0, .ref hSP), (1, .int v)] := hl
  refine lv_iload_n hx hb dX5_size_0 rfl (lv_at hl 1 rfl) ?_
  refine lv_iconst (v := 1) hx hb dX5_size_1 (by decide) ?_
  refine lv_icmp_lt (tgt := 10) hx hb dX5_size_2 (by decide) (fun c1 => ?_) (fun c1 => ?_)
  · refine lv_bipush (v := (-2)) hx hb dX5_size_10 (by decide) ?_
    exact W.iret (v := (-2)) hx hb hr (fun t ht hW => ⟨(-2), rfl, rfl, ht⟩) (fun q h => by cases h) dX5_size_12
  · refine lv_iload_n hx hb dX5_size_5 rfl (lv_at hl 1 rfl) ?_
    refine lv_iconst (v := 3) hx hb dX5_size_6 (by decide) ?_
    refine lv_icmp_le (tgt := 13) hx hb dX5_size_7 (by decide) (fun c2 => ?_) (fun c2 => ?_)
    · exact absurd ⟨by grind, c2⟩ hv0
    · refine lv_bipush (v := (-2)) hx hb dX5_size_10 (by decide) ?_
      exact W.iret (v := (-2)) hx hb hr (fun t ht hW => ⟨(-2), rfl, rfl, ht⟩) (fun q h => by cases h) dX5_size_12
set_option maxHeartbeats 4000000 in
set_option maxRecDepth 100000 in
theorem k_X5_size_s (l : Launch) (D : va_G) (cy : Nat → ClassId) (hSP hSPr hSt hPo hRa : Nat) (rk : Nat → Option Nat) (sn en ve : Int32) (u h sz : Nat) (h1 : 1 ≤ u) (h3 : u ≤ 3) (hrk : rk u = some h) : Met l yX5_size (wA yX5_size cX5_size 3 (some .int)) { frames := 6, cells := 0, slots := 0, locals := 141 } (kPc [.ref hSP, .int (nI u)] D cy (List.flatten [wSP cy hSP hSPr hSt hPo hRa rk sn en ve]) sz) (va_Qi (fun r (_ : Unit) => r = sn) (fun _ t => kB D cy (va_A (List.flatten [wSP cy hSP hSPr hSt hPo hRa rk sn en ve]) sz) (List.flatten [wSP cy hSP hSPr hSt hPo h rk (nI u) en ve]) t) (va_A (List.flatten [wSP cy hSP hSPr hSt hPo hRa rk sn en ve]) sz)) 0 0 (va_A (List.flatten [wSP cy hSP hSPr hSt hPo hRa rk sn en ve]) sz) := by
  refine Met.ofW (cc := cX5_size) (maxL := 3) (ret := (some .int)) (by decide) rfl ?_
  intro p e s m args below meth c s₁ B hml hv
  obtain ⟨rfl, hsz, hN, hP, hK, hD0⟩ := hv
  have hx := B.exec
  have hb := B.bytes
  have hr := B.returns
  have hts0 := atoms_spec (ws := wA yX5_size cX5_size 3 (some .int)) B.pre
  have hts := fun w (h : w ∈ wsL_law) => hts0 w (List.mem_cons_of_mem _ h)
  have hown : s.vm.findClass RX5 = some m.cls := findClass_of_methodNamed B.named
  have hlocks := B.notSynchronized
  subst hsz
  have hD := hD0.self (sz := s.heap.size)
  generalize hAe : va_A (List.flatten [wSP cy hSP hSPr hSt hPo hRa rk sn en ve]) s.heap.size = A at hD ⊢
  have hA : ∀ q : Nat, s.heap.size ≤ q → A q := fun q h => by rw [← hAe]; exact Or.inr h
  have hS : va_S A s.heap s.heap [] := va_S.rf
  have hP : va_P D vwCl (List.flatten [wSP cy hSP hSPr hSt hPo hRa rk sn en ve]) s.heap := hP
  have hl := lv_entry ([.ref hSP, .int (nI u)]) (n := 3) (Nat.le_of_ble_eq_true rfl)
  rw [lg_entry_eq]
  generalize (lg_sl ([.ref hSP, .int (nI u)]) ++ List.replicate (3 - (lg_sl ([.ref hSP, .int (nI u)])).length) Slot.unset).toArray = ls at hl ⊢
  have hl : lv_has ls 3 [(0, .ref hSP), (1, .int (nI u))] := hl
  have c10 : ¬ nI u < 1 := fun q => absurd ((nI_ltI (by omega) (by decide)).mp (show nI u < nI 1 from q)) (by omega)
  have c20 : nI u ≤ 3 := (nI_leI (by omega) (by decide)).mpr h3
  refine lv_iload_n hx hb dX5_size_0 rfl (lv_at hl 1 rfl) ?_
  refine lv_iconst (v := 1) hx hb dX5_size_1 (by decide) ?_
  refine lv_icmp_lt (tgt := 10) hx hb dX5_size_2 (by decide) (fun c1 => absurd c1 c10) (fun c1 => ?_)
  refine lv_iload_n hx hb dX5_size_5 rfl (lv_at hl 1 rfl) ?_
  refine lv_iconst (v := 3) hx hb dX5_size_6 (by decide) ?_
  refine lv_icmp_le (tgt := 13) hx hb dX5_size_7 (by decide) (fun c2 => ?_) (fun c2 => absurd c20 c2)
  refine lv_aload_n hx hb dX5_size_13 rfl (lv_at hl 0 rfl) ?_
  refine va_get (D := D) (ci := 5) (v := .int sn) (C := RX5) (T := TX5) (N := 7) hx hb hts inlX5 hown hK hP 0 rfl rfl 4 (by decide) (hts (.fieldLink RX5 31 "SquarePlanes" "sizeNow" "I") mw_1_22) (fun _ h9 => h9) rfl dX5_size_14 ?_
  refine lv_istore_n (lv' := [(2, .int sn), (0, .ref hSP), (1, .int (nI u))]) hx hb dX5_size_17 rfl hl (by decide) rfl (fun ls hl => ?_)
  refine lv_aload_n hx hb dX5_size_18 rfl (lv_at hl 1 rfl) ?_
  refine lv_iload_n hx hb dX5_size_19 rfl (lv_at hl 2 rfl) ?_
  refine va_put (D := D) (ci := 5) (v := .int (nI u)) (ty := tyX5 4) (C := RX5) (T := TX5) (N := 7) hx hb hts inlX5 tyX5 tyX5_ok nmX5 hown hK hP hD hS 0 rfl rfl 4 (by decide) (hts (.fieldLink RX5 31 "SquarePlanes" "sizeNow" "I") mw_1_22) (fun _ h9 => h9) rfl (tyX5_ok 4 (by decide)) rfl rfl (Nat.le_of_ble_eq_true rfl) dX5_size_20 (fun H locs hP hD hS => ?_)
  have hP : va_P D vwCl (List.flatten [wSP cy hSP hSPr hSt hPo hRa rk (nI u) en ve]) H := hP
  have hD : va_D A (List.flatten [wSP cy hSP hSPr hSt hPo hRa rk (nI u) en ve]) := hD
  refine lv_aload_n hx hb dX5_size_23 rfl (lv_at hl 1 rfl) ?_
  refine lv_aload_n hx hb dX5_size_24 rfl (lv_at hl 1 rfl) ?_
  refine lv_iload_n hx hb dX5_size_25 rfl (lv_at hl 2 rfl) ?_
  refine fd_r [0] [] hP hD hS hA rfl rfl rfl (by decide) (va_runV (As := [.int (nI u)]) (rest := [.ref hSP]) ⟨hx, hb, hml, hown, hts⟩ (k_X5_rankingOfSize_s l D cy hSP hSPr hSt hPo hRa rk (nI u) en ve u h _ h3 hrk) (cwV 1 hts (gV mw_18_9 mw_18_10 mw_18_11 mw_1_2 mw_18_12) rfl rfl rfl (by decide +kernel) ⟨Nat.le_of_ble_eq_true rfl, Nat.le_of_ble_eq_true rfl⟩) (fPreV hN hK hP hD [0] rfl rfl 0 (ci := 5) rfl rfl rfl _) rfl rfl hl.1 rfl (lv_room (Nat.le_of_ble_eq_true rfl)) dX5_size_26 ⟨Nat.zero_le _, Nat.zero_le _⟩) (fun w H locs hw hP hD hS => ?_)
  have hP : va_P D vwCl (List.flatten [wSP cy hSP hSPr hSt hPo hRa rk (nI u) en ve]) H := hP
  have hD : va_D A (List.flatten [wSP cy hSP hSPr hSt hPo hRa rk (nI u) en ve]) := hD
  refine va_put (D := D) (ci := 5) (v := .ref h) (ty := tyX5 3) (C := RX5) (T := TX5) (N := 7) hx hb hts inlX5 tyX5 tyX5_ok nmX5 hown hK hP hD hS 0 rfl rfl 3 (by decide) (hts (.fieldLink RX5 47 "SquarePlanes" "current" "LSquarePlanes$Ranking;") mw_2_5) (fun _ h9 => h9) rfl (tyX5_ok 3 (by decide)) rfl rfl (Nat.le_of_ble_eq_true rfl) dX5_size_29 (fun H locs hP hD hS => ?_)
  have hP : va_P D vwCl (List.flatten [wSP cy hSP hSPr hSt hPo h rk (nI u) en ve]) H := hP
  have hD : va_D A (List.flatten [wSP cy hSP hSPr hSt hPo h rk (nI u) en ve]) := hD
  refine lv_iload_n hx hb dX5_size_32 rfl (lv_at hl 0 rfl) ?_
  exact W.iret (v := sn) hx hb hr (fun t ht hW => ⟨⟨sn, (), rfl, rfl, ⟨by rw [ht]; exact hP, va_K.moved hW.alike hK, hD⟩⟩, hS.F ht⟩) hS.2.2 dX5_size_33
set_option maxHeartbeats 4000000 in
set_option maxRecDepth 100000 in
theorem k_X5_size_n (l : Launch) (D : va_G) (cy : Nat → ClassId) (hSP hSPr hSt hPo hRa : Nat) (rk : Nat → Option Nat) (sn en ve : Int32) (q1 q2 q3 q4 : Nat) (Xs Ys Zs CU : Nat → Int32) (cn : Int32) (u sz : Nat) (σ : Nat → Nat → Int32) (ee n : Nat) (h1 : 1 ≤ u) (h3 : u ≤ 3) (hn : n < 2 ^ 31) (hrk : rk u = none) (hT : tabP 145 Xs Ys Zs) (hC : cuT CU) : Met l yX5_size (wA yX5_size cX5_size 3 (some .int)) { frames := 6, cells := 20, slots := (1102 + 3 * nAx u + nPr u + 7 * nPr u + nPol u + 3 * (2 * nPr u)), locals := 141 } (kPc [.ref hSP, .int (nI u)] D cy (List.flatten [wSP cy hSP hSPr hSt hPo hRa rk sn en ve, wPo cy hPo q1 q2 q3 q4 Xs Ys Zs CU cn]) sz) (va_Qi (fun r (w : Nat × va_W) => r = sn ∧ pack cy hPo σ ee n u w.1 w.2) (fun w t => kB D cy (va_A (List.flatten [wSP cy hSP hSPr hSt hPo hRa rk sn en ve, wPo cy hPo q1 q2 q3 q4 Xs Ys Zs CU cn]) sz) (List.flatten [wSP cy hSP hSPr hSt hPo w.1 (va_up rk u (some w.1)) (nI u) en ve, wPo cy hPo q1 q2 q3 q4 Xs Ys Zs CU cn, w.2]) t) (va_A (List.flatten [wSP cy hSP hSPr hSt hPo hRa rk sn en ve, wPo cy hPo q1 q2 q3 q4 Xs Ys Zs CU cn]) sz)) 20 (1102 + 3 * nAx u + nPr u + 7 * nPr u + nPol u + 3 * (2 * nPr u)) (va_A (List.flatten [wSP cy hSP hSPr hSt hPo hRa rk sn en ve, wPo cy hPo q1 q2 q3 q4 Xs Ys Zs CU cn]) sz) := by
  refine Met.ofW (cc := cX5_size) (maxL := 3) (ret := (some .int)) (by decide) rfl ?_
  intro p e s m args below meth c s₁ B hml hv
  obtain ⟨rfl, hsz, hN, hP, hK, hD0⟩ := hv
  have hx := B.exec
  have hb := B.bytes
  have hr := B.returns
  have hts0 := atoms_spec (ws := wA yX5_size cX5_size 3 (some .int)) B.pre
  have hts := fun w (h : w ∈ wsL_law) => hts0 w (List.mem_cons_of_mem _ h)
  have hown : s.vm.findClass RX5 = some m.cls := findClass_of_methodNamed B.named
  have hlocks := B.notSynchronized
  subst hsz
  have hD := hD0.self (sz := s.heap.size)
  generalize hAe : va_A (List.flatten [wSP cy hSP hSPr hSt hPo hRa rk sn en ve, wPo cy hPo q1 q2 q3 q4 Xs Ys Zs CU cn]) s.heap.size = A at hD ⊢
  have hA : ∀ q : Nat, s.heap.size ≤ q → A q := fun q h => by rw [← hAe]; exact Or.inr h
  have hS : va_S A s.heap s.heap [] := va_S.rf
  have hP : va_P D vwCl (List.flatten [wSP cy hSP hSPr hSt hPo hRa rk sn en ve, wPo cy hPo q1 q2 q3 q4 Xs Ys Zs CU cn]) s.heap := hP
  have hl := lv_entry ([.ref hSP, .int (nI u)]) (n := 3) (Nat.le_of_ble_eq_true rfl)
  rw [lg_entry_eq]
  generalize (lg_sl ([.ref hSP, .int (nI u)]) ++ List.replicate (3 - (lg_sl ([.ref hSP, .int (nI u)])).length) Slot.unset).toArray = ls at hl ⊢
  have hl : lv_has ls 3 [(0, .ref hSP), (1, .int (nI u))] := hl
  refine W.cs (cells' := 0) (slots' := (0)) rfl rfl ?_
  have c10 : ¬ nI u < 1 := fun q => absurd ((nI_ltI (by omega) (by decide)).mp (show nI u < nI 1 from q)) (by omega)
  have c20 : nI u ≤ 3 := (nI_leI (by omega) (by decide)).mpr h3
  refine lv_iload_n hx hb dX5_size_0 rfl (lv_at hl 1 rfl) ?_
  refine lv_iconst (v := 1) hx hb dX5_size_1 (by decide) ?_
  refine lv_icmp_lt (tgt := 10) hx hb dX5_size_2 (by decide) (fun c1 => absurd c1 c10) (fun c1 => ?_)
  refine lv_iload_n hx hb dX5_size_5 rfl (lv_at hl 1 rfl) ?_
  refine lv_iconst (v := 3) hx hb dX5_size_6 (by decide) ?_
  refine lv_icmp_le (tgt := 13) hx hb dX5_size_7 (by decide) (fun c2 => ?_) (fun c2 => absurd c20 c2)
  refine lv_aload_n hx hb dX5_size_13 rfl (lv_at hl 0 rfl) ?_
  refine va_get (D := D) (ci := 5) (v := .int sn) (C := RX5) (T := TX5) (N := 7) hx hb hts inlX5 hown hK hP 0 rfl rfl 4 (by decide) (hts (.fieldLink RX5 31 "SquarePlanes" "sizeNow" "I") mw_1_22) (fun _ h9 => h9) rfl dX5_size_14 ?_
  refine lv_istore_n (lv' := [(2, .int sn), (0, .ref hSP), (1, .int (nI u))]) hx hb dX5_size_17 rfl hl (by decide) rfl (fun ls hl => ?_)
  refine lv_aload_n hx hb dX5_size_18 rfl (lv_at hl 1 rfl) ?_
  refine lv_iload_n hx hb dX5_size_19 rfl (lv_at hl 2 rfl) ?_
  refine va_put (D := D) (ci := 5) (v := .int (nI u)) (ty := tyX5 4) (C := RX5) (T := TX5) (N := 7) hx hb hts inlX5 tyX5 tyX5_ok nmX5 hown hK hP hD hS 0 rfl rfl 4 (by decide) (hts (.fieldLink RX5 31 "SquarePlanes" "sizeNow" "I") mw_1_22) (fun _ h9 => h9) rfl (tyX5_ok 4 (by decide)) rfl rfl (Nat.le_of_ble_eq_true rfl) dX5_size_20 (fun H locs hP hD hS => ?_)
  have hP : va_P D vwCl (List.flatten [wSP cy hSP hSPr hSt hPo hRa rk (nI u) en ve, wPo cy hPo q1 q2 q3 q4 Xs Ys Zs CU cn]) H := hP
  have hD : va_D A (List.flatten [wSP cy hSP hSPr hSt hPo hRa rk (nI u) en ve, wPo cy hPo q1 q2 q3 q4 Xs Ys Zs CU cn]) := hD
  refine lv_aload_n hx hb dX5_size_23 rfl (lv_at hl 1 rfl) ?_
  refine lv_aload_n hx hb dX5_size_24 rfl (lv_at hl 1 rfl) ?_
  refine lv_iload_n hx hb dX5_size_25 rfl (lv_at hl 2 rfl) ?_
  refine fd_r [0, 1] [] hP hD hS hA rfl rfl rfl (by decide) (va_runV (As := [.int (nI u)]) (rest := [.ref hSP]) ⟨hx, hb, hml, hown, hts⟩ (k_X5_rankingOfSize_n l D cy hSP hSPr hSt hPo hRa rk (nI u) en ve q1 q2 q3 q4 Xs Ys Zs CU cn u _ σ ee n h1 h3 hn hrk hT hC) (cwV 1 hts (gV mw_18_9 mw_18_10 mw_18_11 mw_1_2 mw_18_12) rfl rfl rfl (by decide +kernel) ⟨Nat.le_of_ble_eq_true rfl, Nat.le_of_ble_eq_true rfl⟩) (fPreV hN hK hP hD [0, 1] rfl rfl 0 (ci := 5) rfl rfl rfl _) rfl rfl hl.1 rfl (lv_room (Nat.le_of_ble_eq_true rfl)) dX5_size_26 ⟨by show 0 + 20 ≤ 20; omega, by show (0) + (1102 + 3 * nAx u + nPr u + 7 * nPr u + nPol u + 3 * (2 * nPr u)) ≤ (1102 + 3 * nAx u + nPr u + 7 * nPr u + nPol u + 3 * (2 * nPr u)); omega⟩) (fun w H locs hw hP hD hS => ?_)
  obtain ⟨h, wp⟩ := w
  try dsimp only at hw
  have hP : va_P D vwCl (List.flatten [wSP cy hSP hSPr hSt hPo hRa (va_up rk u (some h)) (nI u) en ve, wPo cy hPo q1 q2 q3 q4 Xs Ys Zs CU cn, wp]) H := hP
  have hD : va_D A (List.flatten [wSP cy hSP hSPr hSt hPo hRa (va_up rk u (some h)) (nI u) en ve, wPo cy hPo q1 q2 q3 q4 Xs Ys Zs CU cn, wp]) := hD
  refine W.widen (k := 20) (n := (1102 + 3 * nAx u + nPr u + 7 * nPr u + nPol u + 3 * (2 * nPr u))) (by omega) (by omega) ?_
  refine va_put (D := D) (ci := 5) (v := .ref h) (ty := tyX5 3) (C := RX5) (T := TX5) (N := 7) hx hb hts inlX5 tyX5 tyX5_ok nmX5 hown hK hP hD hS 0 rfl rfl 3 (by decide) (hts (.fieldLink RX5 47 "SquarePlanes" "current" "LSquarePlanes$Ranking;") mw_2_5) (fun _ h9 => h9) rfl (tyX5_ok 3 (by decide)) rfl rfl (Nat.le_of_ble_eq_true rfl) dX5_size_29 (fun H locs hP hD hS => ?_)
  have hP : va_P D vwCl (List.flatten [wSP cy hSP hSPr hSt hPo h (va_up rk u (some h)) (nI u) en ve, wPo cy hPo q1 q2 q3 q4 Xs Ys Zs CU cn, wp]) H := hP
  have hD : va_D A (List.flatten [wSP cy hSP hSPr hSt hPo h (va_up rk u (some h)) (nI u) en ve, wPo cy hPo q1 q2 q3 q4 Xs Ys Zs CU cn, wp]) := hD
  refine lv_iload_n hx hb dX5_size_32 rfl (lv_at hl 0 rfl) ?_
  exact W.iret (v := sn) hx hb hr (fun t ht hW => ⟨⟨sn, (h, wp), rfl, ⟨rfl, hw⟩, ⟨by rw [ht]; exact hP, va_K.moved hW.alike hK, hD⟩⟩, hS.F ht⟩) hS.2.2 dX5_size_33
