set_option maxHeartbeats 4000000 in
set_option maxRecDepth 100000 in
theorem k_X5_pairOf (l : Launch) (D : va_G) (cy : Nat → ClassId) (hSP hSP_rankings hSt hPo hRa hRa_misfits hRa_nodals hRa_order hRa_places hRa_counted hRa_begins hPl hBu hPl_lesser hPl_greater hPl_axisOf hPl_axisXs hPl_axisYs hPl_axisZs hPl_axisSquares hPl_poleSigns hPo_xs hPo_ys hPo_zs hPo_countUpTo ns nn np nq : Nat) (SP_rankings : Nat → Option Nat) (SP_sizeNow : Int32) (SP_extraNow : Int32) (SP_version : Int32) (Ra_misfits : Nat → Int32) (Ra_nodals : Nat → Int32) (Ra_order : Nat → Int32) (Ra_places : Nat → Int32) (Ra_keptCount : Int32) (Ra_least : Int32) (Ra_version : Int32) (Ra_counted : Nat → Int32) (Ra_begins : Nat → Int32) (Pl_poleCount : Int32) (Pl_pairCount : Int32) (Pl_lesser : Nat → Int32) (Pl_greater : Nat → Int32) (Pl_axisOf : Nat → Int32) (Pl_axisXs : Nat → Int32) (Pl_axisYs : Nat → Int32) (Pl_axisZs : Nat → Int32) (Pl_axisSquares : Nat → Int32) (Pl_axisCount : Int32) (Pl_poleSigns : Nat → Int32) (Po_xs : Nat → Int32) (Po_ys : Nat → Int32) (Po_zs : Nat → Int32) (Po_countUpTo : Nat → Int32) (Po_count : Int32) (p0 : Int32) (p1 : Int32) (sz : Nat) (Q : Int32 → Prop) (hw : wp_X5_pairOf p0 p1 ns nn np nq SP_sizeNow Pl_pairCount Pl_lesser Pl_greater Po_countUpTo Q) : Met l yX5_pairOf (wA yX5_pairOf cX5_pairOf 3 (some .int)) { frames := 1, cells := 0, slots := 0, locals := 23 } (kPc [.ref hSP, .int p0, .int p1] D cy (List.flatten [wSP cy hSP hSP_rankings hSt hPo hRa SP_rankings SP_sizeNow SP_extraNow SP_version, wRa cy hRa hRa_misfits hRa_nodals hRa_order hRa_places hRa_counted hRa_begins hPl hBu ns nn Ra_misfits Ra_nodals Ra_order Ra_places Ra_keptCount Ra_least Ra_version Ra_counted Ra_begins, wPl cy hPl hPl_lesser hPl_greater hPl_axisOf hPl_axisXs hPl_axisYs hPl_axisZs hPl_axisSquares hPl_poleSigns hPo np nq Pl_poleCount Pl_pairCount Pl_lesser Pl_greater Pl_axisOf Pl_axisXs Pl_axisYs Pl_axisZs Pl_axisSquares Pl_axisCount Pl_poleSigns, wPo cy hPo hPo_xs hPo_ys hPo_zs hPo_countUpTo Po_xs Po_ys Po_zs Po_countUpTo Po_count]) sz) (kSi Q) 0 0 (fun _ => False) := by
  refine Met.ofW (cc := cX5_pairOf) (maxL := 3) (ret := (some .int)) (by decide) rfl ?_
  intro p e s m args below meth c s₁ B hml hv
  obtain ⟨rfl, hsz, hN, hP, hK, hD0⟩ := hv
  have hx := B.exec
  have hb := B.bytes
  have hr := B.returns
  have hts0 := atoms_spec (ws := wA yX5_pairOf cX5_pairOf 3 (some .int)) B.pre
  have hts := fun w (h : w ∈ wsL_law) => hts0 w (List.mem_cons_of_mem _ h)
  have hown : s.vm.findClass RX5 = some m.cls := findClass_of_methodNamed B.named
  have hlocks := B.notSynchronized
  subst hsz
  have hD := hD0
  have hl := lv_entry ([.ref hSP, .int p0, .int p1]) (n := 3) (Nat.le_of_ble_eq_true rfl)
  rw [lg_entry_eq]
  generalize (lg_sl ([.ref hSP, .int p0, .int p1]) ++ List.replicate (3 - (lg_sl ([.ref hSP, .int p0, .int p1])).length) Slot.unset).toArray = ls at hl ⊢
  have hl : lv_has ls 3 [(0, .ref hSP), (1, .int p0), (2, .int p1)] := hl
  unfold wp_X5_pairOf at hw
  refine lv_aload_n hx hb dX5_pairOf_0 rfl (lv_at hl 0 rfl) ?_
  refine lv_iload_n hx hb dX5_pairOf_1 rfl (lv_at hl 1 rfl) ?_
  refine kc_i (va_runV (As := [.int p0]) (rest := []) ⟨hx, hb, hml, hown, hts⟩ (k_X5_isPole l D cy hSP hSP_rankings hSt hPo hRa hPo_xs hPo_ys hPo_zs hPo_countUpTo SP_rankings SP_sizeNow SP_extraNow SP_version Po_xs Po_ys Po_zs Po_countUpTo Po_count p0 _ _ hw) (cwV 1 hts (gV mw_19_8 mw_19_9 mw_19_10 mw_1_2 mw_19_11) rfl rfl rfl (by decide +kernel) ⟨Nat.le_of_ble_eq_true rfl, Nat.le_of_ble_eq_true rfl⟩) (fPreV hN hK hP hD [0, 3] rfl rfl 0 (ci := 5) rfl rfl rfl _) rfl rfl hl.1 rfl (lv_room (Nat.le_of_ble_eq_true rfl)) dX5_pairOf_2 ⟨Nat.zero_le _, Nat.zero_le _⟩) (fun r1 hw => ?_)
  refine lv_if_eq (tgt := 16) hx hb dX5_pairOf_5 (by decide) (fun c7 => ?_) (fun c7 => ?_)
  · have hw := hw.1 c7
    refine lv_iconst (v := (-1)) hx hb dX5_pairOf_16 (by decide) ?_
    exact W.iret (v := (-1)) hx hb hr (fun t ht hW => ⟨(-1), rfl, hw, ht⟩) (fun q h => by cases h) dX5_pairOf_17
  · have hw := hw.2 c7
    refine lv_aload_n hx hb dX5_pairOf_8 rfl (lv_at hl 0 rfl) ?_
    refine lv_iload_n hx hb dX5_pairOf_9 rfl (lv_at hl 2 rfl) ?_
    refine kc_i (va_runV (As := [.int p1]) (rest := []) ⟨hx, hb, hml, hown, hts⟩ (k_X5_isPole l D cy hSP hSP_rankings hSt hPo hRa hPo_xs hPo_ys hPo_zs hPo_countUpTo SP_rankings SP_sizeNow SP_extraNow SP_version Po_xs Po_ys Po_zs Po_countUpTo Po_count p1 _ _ hw) (cwV 1 hts (gV mw_19_8 mw_19_9 mw_19_10 mw_1_2 mw_19_11) rfl rfl rfl (by decide +kernel) ⟨Nat.le_of_ble_eq_true rfl, Nat.le_of_ble_eq_true rfl⟩) (fPreV hN hK hP hD [0, 3] rfl rfl 0 (ci := 5) rfl rfl rfl _) rfl rfl hl.1 rfl (lv_room (Nat.le_of_ble_eq_true rfl)) dX5_pairOf_10 ⟨Nat.zero_le _, Nat.zero_le _⟩) (fun r2 hw => ?_)
    refine lv_if_ne (tgt := 18) hx hb dX5_pairOf_13 (by decide) (fun c6 => ?_) (fun c6 => ?_)
    · have hw := hw.2 c6
      refine lv_aload_n hx hb dX5_pairOf_18 rfl (lv_at hl 0 rfl) ?_
      refine va_get (D := D) (ci := 5) (v := .ref hRa) (C := RX5) (T := TX5) (N := 7) hx hb hts inlX5 hown hK hP 0 rfl rfl 3 (by decide) (hts (.fieldLink RX5 47 "SquarePlanes" "current" "LSquarePlanes$Ranking;") mw_2_5) (fun _ h9 => h9) rfl dX5_pairOf_19 ?_
      refine va_get (D := D) (ci := 3) (v := .ref hPl) (C := RX3) (T := TX3) (N := 11) hx hb hts inlX3 hown hK hP 2 rfl rfl 0 (by decide) (hts (.fieldLink RX5 118 "SquarePlanes$Ranking" "planes" "LSquarePlanes$Planes;") mw_20_13) (fun _ h9 => h9) rfl dX5_pairOf_22 ?_
      refine lv_iload_n hx hb dX5_pairOf_25 rfl (lv_at hl 1 rfl) ?_
      refine lv_iload_n hx hb dX5_pairOf_26 rfl (lv_at hl 2 rfl) ?_
      refine va_mmin hx hb (by rw [hml]; exact hl.1.symm) hown (hts (.methodLink RX5 131 Lib.Math.min.name) mw_21_1) (hts (.static Lib.Math.min.name) mw_13_23) (hts (.initialized "java/lang/Math") mw_3_13) (hts (.code Lib.Math.min.name Lib.Math.min.code 2 (some .int)) mw_14_0) (Nat.le_of_ble_eq_true rfl) (Nat.le_of_ble_eq_true rfl) (Nat.zero_le _) (Nat.zero_le _) dX5_pairOf_27 ?_
      refine lv_topi (fun x3 ex3 => ?_)
      have hw := hw x3 ex3
      refine lv_iload_n hx hb dX5_pairOf_30 rfl (lv_at hl 1 rfl) ?_
      refine lv_iload_n hx hb dX5_pairOf_31 rfl (lv_at hl 2 rfl) ?_
      refine va_mmax hx hb (by rw [hml]; exact hl.1.symm) hown (hts (.methodLink RX5 136 Lib.Math.max.name) mw_21_2) (hts (.static Lib.Math.max.name) mw_21_3) (hts (.initialized "java/lang/Math") mw_3_13) (hts (.code Lib.Math.max.name Lib.Math.max.code 2 (some .int)) mw_21_4) (Nat.le_of_ble_eq_true rfl) (Nat.le_of_ble_eq_true rfl) (Nat.zero_le _) (Nat.zero_le _) dX5_pairOf_32 ?_
      refine lv_topi (fun x4 ex4 => ?_)
      have hw := hw x4 ex4
      refine kc_i (va_runV (As := [.int x3, .int x4]) (rest := []) ⟨hx, hb, hml, hown, hts⟩ (k_X1_find l D cy hPl hPl_lesser hPl_greater hPl_axisOf hPl_axisXs hPl_axisYs hPl_axisZs hPl_axisSquares hPl_poleSigns hPo np nq Pl_poleCount Pl_pairCount Pl_lesser Pl_greater Pl_axisOf Pl_axisXs Pl_axisYs Pl_axisZs Pl_axisSquares Pl_axisCount Pl_poleSigns x3 x4 _ _ hw) (cwV 2 hts (gV mw_21_5 mw_21_6 mw_21_7 mw_2_3 mw_21_8) rfl rfl rfl (by decide +kernel) ⟨Nat.le_of_ble_eq_true rfl, Nat.le_of_ble_eq_true rfl⟩) (fPreV hN hK hP hD [2] rfl rfl 9 (ci := 1) rfl rfl rfl _) rfl rfl hl.1 rfl (lv_room (Nat.le_of_ble_eq_true rfl)) dX5_pairOf_35 ⟨Nat.zero_le _, Nat.zero_le _⟩) (fun r5 hw => ?_)
      exact W.iret (v := r5) hx hb hr (fun t ht hW => ⟨r5, rfl, hw, ht⟩) (fun q h => by cases h) dX5_pairOf_38
    · have hw := hw.1 c6
      refine lv_iconst (v := (-1)) hx hb dX5_pairOf_16 (by decide) ?_
      exact W.iret (v := (-1)) hx hb hr (fun t ht hW => ⟨(-1), rfl, hw, ht⟩) (fun q h => by cases h) dX5_pairOf_17
set_option maxHeartbeats 4000000 in
set_option maxRecDepth 100000 in
theorem k_X5_isTriple (l : Launch) (D : va_G) (cy : Nat → ClassId) (p0 : Int32) (p1 : Int32) (p2 : Int32) (sz : Nat) (Q : Int32 → Prop) (hw : wp_X5_isTriple p0 p1 p2 Q) : Met l yX5_isTriple (wA yX5_isTriple cX5_isTriple 3 (some .boolean)) { frames := 1, cells := 0, slots := 0, locals := 20 } (kPc [.int p0, .int p1, .int p2] D cy (List.flatten ([] : List va_W)) sz) (kSi Q) 0 0 (fun _ => False) := by
  refine Met.ofW (cc := cX5_isTriple) (maxL := 3) (ret := (some .boolean)) (by decide) rfl ?_
  intro p e s m args below meth c s₁ B hml hv
  obtain ⟨rfl, hsz, hN, hP, hK, hD0⟩ := hv
  have hx := B.exec
  have hb := B.bytes
  have hr := B.returns
  have hts0 := atoms_spec (ws := wA yX5_isTriple cX5_isTriple 3 (some .boolean)) B.pre
  have hts := fun w (h : w ∈ wsL_law) => hts0 w (List.mem_cons_of_mem _ h)
  have hown : s.vm.findClass RX5 = some m.cls := findClass_of_methodNamed B.named
  have hlocks := B.notSynchronized
  subst hsz
  have hD := hD0
  have hl := lv_entry ([.int p0, .int p1, .int p2]) (n := 3) (Nat.le_of_ble_eq_true rfl)
  rw [lg_entry_eq]
  generalize (lg_sl ([.int p0, .int p1, .int p2]) ++ List.replicate (3 - (lg_sl ([.int p0, .int p1, .int p2])).length) Slot.unset).toArray = ls at hl ⊢
  have hl : lv_has ls 3 [(0, .int p0), (1, .int p1), (2, .int p2)] := hl
  unfold wp_X5_isTriple at hw
  refine lv_iload_n hx hb dX5_isTriple_0 rfl (lv_at hl 0 rfl) ?_
  refine kc_i (va_runS (As := [.int p0]) (rest := []) ⟨hx, hb, hml, hown, hts⟩ (k_X5_isNumber l D cy p0 _ _ hw) (va_cwS 1 hts (gS mw_9_14 mw_9_15 mw_1_2 mw_9_16) rfl rfl rfl (by decide +kernel) ⟨Nat.le_of_ble_eq_true rfl, Nat.le_of_ble_eq_true rfl⟩) (fPre hN hK hP hD [] rfl rfl _) rfl rfl hl.1 rfl (lv_room (Nat.le_of_ble_eq_true rfl)) dX5_isTriple_1 ⟨Nat.zero_le _, Nat.zero_le _⟩) (fun r1 hw => ?_)
  refine lv_if_eq (tgt := 37) hx hb dX5_isTriple_4 (by decide) (fun c9 => ?_) (fun c9 => ?_)
  · have hw := hw.1 c9
    refine lv_iconst (v := 0) hx hb dX5_isTriple_37 (by decide) ?_
    exact W.zret (v := 0) hx hb hr rfl (fun t ht hW => ⟨0, rfl, hw, ht⟩) (fun q h => by cases h) dX5_isTriple_38
  · have hw := hw.2 c9
    refine lv_iload_n hx hb dX5_isTriple_7 rfl (lv_at hl 1 rfl) ?_
    refine kc_i (va_runS (As := [.int p1]) (rest := []) ⟨hx, hb, hml, hown, hts⟩ (k_X5_isNumber l D cy p1 _ _ hw) (va_cwS 1 hts (gS mw_9_14 mw_9_15 mw_1_2 mw_9_16) rfl rfl rfl (by decide +kernel) ⟨Nat.le_of_ble_eq_true rfl, Nat.le_of_ble_eq_true rfl⟩) (fPre hN hK hP hD [] rfl rfl _) rfl rfl hl.1 rfl (lv_room (Nat.le_of_ble_eq_true rfl)) dX5_isTriple_8 ⟨Nat.zero_le _, Nat.zero_le _⟩) (fun r2 hw => ?_)
    refine lv_if_eq (tgt := 37) hx hb dX5_isTriple_11 (by decide) (fun c8 => ?_) (fun c8 => ?_)
    · have hw := hw.1 c8
      refine lv_iconst (v := 0) hx hb dX5_isTriple_37 (by decide) ?_
      exact W.zret (v := 0) hx hb hr rfl (fun t ht hW => ⟨0, rfl, hw, ht⟩) (fun q h => by cases h) dX5_isTriple_38
    · have hw := hw.2 c8
      refine lv_iload_n hx hb dX5_isTriple_14 rfl (lv_at hl 2 rfl) ?_
      refine kc_i (va_runS (As := [.int p2]) (rest := []) ⟨hx, hb, hml, hown, hts⟩ (k_X5_isNumber l D cy p2 _ _ hw) (va_cwS 1 hts (gS mw_9_14 mw_9_15 mw_1_2 mw_9_16) rfl rfl rfl (by decide +kernel) ⟨Nat.le_of_ble_eq_true rfl, Nat.le_of_ble_eq_true rfl⟩) (fPre hN hK hP hD [] rfl rfl _) rfl rfl hl.1 rfl (lv_room (Nat.le_of_ble_eq_true rfl)) dX5_isTriple_15 ⟨Nat.zero_le _, Nat.zero_le _⟩) (fun r3 hw => ?_)
      refine lv_if_eq (tgt := 37) hx hb dX5_isTriple_18 (by decide) (fun c7 => ?_) (fun c7 => ?_)
      · have hw := hw.1 c7
        refine lv_iconst (v := 0) hx hb dX5_isTriple_37 (by decide) ?_
        exact W.zret (v := 0) hx hb hr rfl (fun t ht hW => ⟨0, rfl, hw, ht⟩) (fun q h => by cases h) dX5_isTriple_38
      · have hw := hw.2 c7
        refine lv_iload_n hx hb dX5_isTriple_21 rfl (lv_at hl 0 rfl) ?_
        refine lv_if_ne (tgt := 33) hx hb dX5_isTriple_22 (by decide) (fun c6 => ?_) (fun c6 => ?_)
        · have hw := hw.2 c6
          refine lv_iconst (v := 1) hx hb dX5_isTriple_33 (by decide) ?_
          refine lv_goto (tgt := 38) hx hb dX5_isTriple_34 (by decide) ?_
          exact W.zret (v := 1) hx hb hr rfl (fun t ht hW => ⟨1, rfl, hw, ht⟩) (fun q h => by cases h) dX5_isTriple_38
        · have hw := hw.1 c6
          refine lv_iload_n hx hb dX5_isTriple_25 rfl (lv_at hl 1 rfl) ?_
          refine lv_if_ne (tgt := 33) hx hb dX5_isTriple_26 (by decide) (fun c5 => ?_) (fun c5 => ?_)
          · have hw := hw.2 c5
            refine lv_iconst (v := 1) hx hb dX5_isTriple_33 (by decide) ?_
            refine lv_goto (tgt := 38) hx hb dX5_isTriple_34 (by decide) ?_
            exact W.zret (v := 1) hx hb hr rfl (fun t ht hW => ⟨1, rfl, hw, ht⟩) (fun q h => by cases h) dX5_isTriple_38
          · have hw := hw.1 c5
            refine lv_iload_n hx hb dX5_isTriple_29 rfl (lv_at hl 2 rfl) ?_
            refine lv_if_eq (tgt := 37) hx hb dX5_isTriple_30 (by decide) (fun c4 => ?_) (fun c4 => ?_)
            · have hw := hw.1 c4
              refine lv_iconst (v := 0) hx hb dX5_isTriple_37 (by decide) ?_
              exact W.zret (v := 0) hx hb hr rfl (fun t ht hW => ⟨0, rfl, hw, ht⟩) (fun q h => by cases h) dX5_isTriple_38
            · have hw := hw.2 c4
              refine lv_iconst (v := 1) hx hb dX5_isTriple_33 (by decide) ?_
              refine lv_goto (tgt := 38) hx hb dX5_isTriple_34 (by decide) ?_
              exact W.zret (v := 1) hx hb hr rfl (fun t ht hW => ⟨1, rfl, hw, ht⟩) (fun q h => by cases h) dX5_isTriple_38
set_option maxHeartbeats 4000000 in
set_option maxRecDepth 100000 in
theorem k_X5_signedDivisor (l : Launch) (D : va_G) (cy : Nat → ClassId) (p0 : Int32) (p1 : Int32) (p2 : Int32) (sz : Nat) (Q : Int32 → Prop) (hw : wp_X5_signedDivisor p0 p1 p2 Q) : Met l yX5_signedDivisor (wA yX5_signedDivisor cX5_signedDivisor 5 (some .int)) { frames := 2, cells := 0, slots := 0, locals := 46 } (kPc [.int p0, .int p1, .int p2] D cy (List.flatten ([] : List va_W)) sz) (kSi Q) 0 0 (fun _ => False) := by
  refine Met.ofW (cc := cX5_signedDivisor) (maxL := 5) (ret := (some .int)) (by decide) rfl ?_
  intro p e s m args below meth c s₁ B hml hv
  obtain ⟨rfl, hsz, hN, hP, hK, hD0⟩ := hv
  have hx := B.exec
  have hb := B.bytes
  have hr := B.returns
  have hts0 := atoms_spec (ws := wA yX5_signedDivisor cX5_signedDivisor 5 (some .int)) B.pre
  have hts := fun w (h : w ∈ wsL_law) => hts0 w (List.mem_cons_of_mem _ h)
  have hown : s.vm.findClass RX5 = some m.cls := findClass_of_methodNamed B.named
  have hlocks := B.notSynchronized
  subst hsz
  have hD := hD0
  have hl := lv_entry ([.int p0, .int p1, .int p2]) (n := 5) (Nat.le_of_ble_eq_true rfl)
  rw [lg_entry_eq]
  generalize (lg_sl ([.int p0, .int p1, .int p2]) ++ List.replicate (5 - (lg_sl ([.int p0, .int p1, .int p2])).length) Slot.unset).toArray = ls at hl ⊢
  have hl : lv_has ls 5 [(0, .int p0), (1, .int p1), (2, .int p2)] := hl
  unfold wp_X5_signedDivisor at hw
  refine lv_iload_n hx hb dX5_signedDivisor_0 rfl (lv_at hl 0 rfl) ?_
  refine lv_iload_n hx hb dX5_signedDivisor_1 rfl (lv_at hl 1 rfl) ?_
  refine kc_i (va_runS (As := [.int p0, .int p1]) (rest := []) ⟨hx, hb, hml, hown, hts⟩ (k_X5_commonDivisor l D cy p0 p1 _ _ hw) (va_cwS 2 hts (gS mw_3_21 mw_3_22 mw_1_2 mw_3_23) rfl rfl rfl (by decide +kernel) ⟨Nat.le_of_ble_eq_true rfl, Nat.le_of_ble_eq_true rfl⟩) (fPre hN hK hP hD [] rfl rfl _) rfl rfl hl.1 rfl (lv_room (Nat.le_of_ble_eq_true rfl)) dX5_signedDivisor_2 ⟨Nat.zero_le _, Nat.zero_le _⟩) (fun r1 hw => ?_)
  refine lv_iload_n hx hb dX5_signedDivisor_5 rfl (lv_at hl 2 rfl) ?_
  refine kc_i (va_runS (As := [.int r1, .int p2]) (rest := []) ⟨hx, hb, hml, hown, hts⟩ (k_X5_commonDivisor l D cy r1 p2 _ _ hw) (va_cwS 2 hts (gS mw_3_21 mw_3_22 mw_1_2 mw_3_23) rfl rfl rfl (by decide +kernel) ⟨Nat.le_of_ble_eq_true rfl, Nat.le_of_ble_eq_true rfl⟩) (fPre hN hK hP hD [] rfl rfl _) rfl rfl hl.1 rfl (lv_room (Nat.le_of_ble_eq_true rfl)) dX5_signedDivisor_6 ⟨Nat.zero_le _, Nat.zero_le _⟩) (fun r2 hw => ?_)
  refine lv_istore_n (lv' := [(3, .int r2), (0, .int p0), (1, .int p1), (2, .int p2)]) hx hb dX5_signedDivisor_9 rfl hl (by decide) rfl (fun ls hl => ?_)
  refine lv_iload_n hx hb dX5_signedDivisor_10 rfl (lv_at hl 1 rfl) ?_
  refine lv_if_eq (tgt := 18) hx hb dX5_signedDivisor_11 (by decide) (fun c7 => ?_) (fun c7 => ?_)
  · have hw := hw.1 c7
    refine lv_iload_n hx hb dX5_signedDivisor_18 rfl (lv_at hl 2 rfl) ?_
    refine lv_if_eq (tgt := 26) hx hb dX5_signedDivisor_19 (by decide) (fun c5 => ?_) (fun c5 => ?_)
    · have hw := hw.1 c5
      refine lv_iload_n hx hb dX5_signedDivisor_26 rfl (lv_at hl 3 rfl) ?_
      refine lv_istore (lv' := [(4, .int p2), (3, .int r2), (0, .int p0), (1, .int p1), (2, .int p2)]) hx hb dX5_signedDivisor_27 hl (by decide) rfl (fun ls hl => ?_)
      refine lv_iload hx hb dX5_signedDivisor_29 (lv_at hl 0 rfl) ?_
      refine lv_if_ge (tgt := 39) hx hb dX5_signedDivisor_31 (by decide) (fun c3 => ?_) (fun c3 => ?_)
      · have hw := hw.1 c3
        refine lv_iload_n hx hb dX5_signedDivisor_39 rfl (lv_at hl 1 rfl) ?_
        exact W.iret (v := r2) hx hb hr (fun t ht hW => ⟨r2, rfl, hw, ht⟩) (fun q h => by cases h) dX5_signedDivisor_40
      · have hw := hw.2 c3
        refine lv_iload_n hx hb dX5_signedDivisor_34 rfl (lv_at hl 1 rfl) ?_
        refine lv_ineg hx hb dX5_signedDivisor_35 ?_
        refine lv_goto (tgt := 40) hx hb dX5_signedDivisor_36 (by decide) ?_
        exact W.iret (v := -r2) hx hb hr (fun t ht hW => ⟨-r2, rfl, hw, ht⟩) (fun q h => by cases h) dX5_signedDivisor_40
    · have hw := hw.2 c5
      refine lv_iload_n hx hb dX5_signedDivisor_22 rfl (lv_at hl 2 rfl) ?_
      refine lv_goto (tgt := 27) hx hb dX5_signedDivisor_23 (by decide) ?_
      refine lv_istore (lv' := [(4, .int p1), (3, .int r2), (0, .int p0), (1, .int p1), (2, .int p2)]) hx hb dX5_signedDivisor_27 hl (by decide) rfl (fun ls hl => ?_)
      refine lv_iload hx hb dX5_signedDivisor_29 (lv_at hl 0 rfl) ?_
      refine lv_if_ge (tgt := 39) hx hb dX5_signedDivisor_31 (by decide) (fun c4 => ?_) (fun c4 => ?_)
      · have hw := hw.1 c4
        refine lv_iload_n hx hb dX5_signedDivisor_39 rfl (lv_at hl 1 rfl) ?_
        exact W.iret (v := r2) hx hb hr (fun t ht hW => ⟨r2, rfl, hw, ht⟩) (fun q h => by cases h) dX5_signedDivisor_40
      · have hw := hw.2 c4
        refine lv_iload_n hx hb dX5_signedDivisor_34 rfl (lv_at hl 1 rfl) ?_
        refine lv_ineg hx hb dX5_signedDivisor_35 ?_
        refine lv_goto (tgt := 40) hx hb dX5_signedDivisor_36 (by decide) ?_
        exact W.iret (v := -r2) hx hb hr (fun t ht hW => ⟨-r2, rfl, hw, ht⟩) (fun q h => by cases h) dX5_signedDivisor_40
  · have hw := hw.2 c7
    refine lv_iload_n hx hb dX5_signedDivisor_14 rfl (lv_at hl 1 rfl) ?_
    refine lv_goto (tgt := 27) hx hb dX5_signedDivisor_15 (by decide) ?_
    refine lv_istore (lv' := [(4, .int p0), (3, .int r2), (0, .int p0), (1, .int p1), (2, .int p2)]) hx hb dX5_signedDivisor_27 hl (by decide) rfl (fun ls hl => ?_)
    refine lv_iload hx hb dX5_signedDivisor_29 (lv_at hl 0 rfl) ?_
    refine lv_if_ge (tgt := 39) hx hb dX5_signedDivisor_31 (by decide) (fun c6 => ?_) (fun c6 => ?_)
    · have hw := hw.1 c6
      refine lv_iload_n hx hb dX5_signedDivisor_39 rfl (lv_at hl 1 rfl) ?_
      exact W.iret (v := r2) hx hb hr (fun t ht hW => ⟨r2, rfl, hw, ht⟩) (fun q h => by cases h) dX5_signedDivisor_40
    · have hw := hw.2 c6
      refine lv_iload_n hx hb dX5_signedDivisor_34 rfl (lv_at hl 1 rfl) ?_
      refine lv_ineg hx hb dX5_signedDivisor_35 ?_
      refine lv_goto (tgt := 40) hx hb dX5_signedDivisor_36 (by decide) ?_
      exact W.iret (v := -r2) hx hb hr (fun t ht hW => ⟨-r2, rfl, hw, ht⟩) (fun q h => by cases h) dX5_signedDivisor_40
set_option maxHeartbeats 4000000 in
set_option maxRecDepth 100000 in
theorem k_X5_leastTerm (l : Launch) (D : va_G) (cy : Nat → ClassId) (p0 : Int32) (p1 : Int32) (p2 : Int32) (sz : Nat) (Q : Int64 → Prop) (hw : wp_X5_leastTerm p0 p1 p2 Q) : Met l yX5_leastTerm (wA yX5_leastTerm cX5_leastTerm 4 (some .long)) { frames := 2, cells := 0, slots := 0, locals := 46 } (kPc [.int p0, .int p1, .int p2] D cy (List.flatten ([] : List va_W)) sz) (kSl Q) 0 0 (fun _ => False) := by
  refine Met.ofW (cc := cX5_leastTerm) (maxL := 4) (ret := (some .long)) (by decide) rfl ?_
  intro p e s m args below meth c s₁ B hml hv
  obtain ⟨rfl, hsz, hN, hP, hK, hD0⟩ := hv
  have hx := B.exec
  have hb := B.bytes
  have hr := B.returns
  have hts0 := atoms_spec (ws := wA yX5_leastTerm cX5_leastTerm 4 (some .long)) B.pre
  have hts := fun w (h : w ∈ wsL_law) => hts0 w (List.mem_cons_of_mem _ h)
  have hown : s.vm.findClass RX5 = some m.cls := findClass_of_methodNamed B.named
  have hlocks := B.notSynchronized
  subst hsz
  have hD := hD0
  have hl := lv_entry ([.int p0, .int p1, .int p2]) (n := 4) (Nat.le_of_ble_eq_true rfl)
  rw [lg_entry_eq]
  generalize (lg_sl ([.int p0, .int p1, .int p2]) ++ List.replicate (4 - (lg_sl ([.int p0, .int p1, .int p2])).length) Slot.unset).toArray = ls at hl ⊢
  have hl : lv_has ls 4 [(0, .int p0), (1, .int p1), (2, .int p2)] := hl
  unfold wp_X5_leastTerm at hw
  refine lv_iload_n hx hb dX5_leastTerm_0 rfl (lv_at hl 0 rfl) ?_
  refine lv_iload_n hx hb dX5_leastTerm_1 rfl (lv_at hl 1 rfl) ?_
  refine kc_i (va_runS (As := [.int p0, .int p1]) (rest := []) ⟨hx, hb, hml, hown, hts⟩ (k_X5_commonDivisor l D cy p0 p1 _ _ hw) (va_cwS 2 hts (gS mw_3_21 mw_3_22 mw_1_2 mw_3_23) rfl rfl rfl (by decide +kernel) ⟨Nat.le_of_ble_eq_true rfl, Nat.le_of_ble_eq_true rfl⟩) (fPre hN hK hP hD [] rfl rfl _) rfl rfl hl.1 rfl (lv_room (Nat.le_of_ble_eq_true rfl)) dX5_leastTerm_2 ⟨Nat.zero_le _, Nat.zero_le _⟩) (fun r1 hw => ?_)
  refine lv_istore_n (lv' := [(3, .int r1), (0, .int p0), (1, .int p1), (2, .int p2)]) hx hb dX5_leastTerm_5 rfl hl (by decide) rfl (fun ls hl => ?_)
  refine lv_iload_n hx hb dX5_leastTerm_6 rfl (lv_at hl 0 rfl) ?_
  refine lv_if_ne (tgt := 14) hx hb dX5_leastTerm_7 (by decide) (fun c3 => ?_) (fun c3 => ?_)
  · have hw := hw.2 c3
    refine lv_iload_n hx hb dX5_leastTerm_14 rfl (lv_at hl 3 rfl) ?_
    refine lv_if_ne (tgt := 25) hx hb dX5_leastTerm_15 (by decide) (fun c2 => ?_) (fun c2 => ?_)
    · have hw := hw.2 c2
      refine lv_iload_n hx hb dX5_leastTerm_25 rfl (lv_at hl 2 rfl) ?_
      refine lv_iload_n hx hb dX5_leastTerm_26 rfl (lv_at hl 0 rfl) ?_
      refine lv_idiv hx hb dX5_leastTerm_27 hw.1 ?_
      have hw := hw.2
      refine lv_i2l hx hb dX5_leastTerm_28 rfl ?_
      exact W.lret (v := (p1 / r1).toInt64) hx hb hr (fun t ht hW => ⟨(p1 / r1).toInt64, rfl, hw, ht⟩) (fun q h => by cases h) dX5_leastTerm_29
    · have hw := hw.1 c2
      refine lv_iload_n hx hb dX5_leastTerm_18 rfl (lv_at hl 1 rfl) ?_
      refine lv_iload_n hx hb dX5_leastTerm_19 rfl (lv_at hl 0 rfl) ?_
      refine lv_idiv hx hb dX5_leastTerm_20 hw.1 ?_
      have hw := hw.2
      refine lv_i2l hx hb dX5_leastTerm_21 rfl ?_
      refine lv_goto (tgt := 29) hx hb dX5_leastTerm_22 (by decide) ?_
      exact W.lret (v := (p0 / r1).toInt64) hx hb hr (fun t ht hW => ⟨(p0 / r1).toInt64, rfl, hw, ht⟩) (fun q h => by cases h) dX5_leastTerm_29
  · have hw := hw.1 c3
    refine lv_ldc2 (v := (-9223372036854775808)) hx hb hown (hts (.constantLong RX5 182 (-9223372036854775808)) mw_24_9) dX5_leastTerm_10 ?_
    exact W.lret (v := (-9223372036854775808)) hx hb hr (fun t ht hW => ⟨(-9223372036854775808), rfl, hw, ht⟩) (fun q h => by cases h) dX5_leastTerm_13
set_option maxHeartbeats 4000000 in
set_option maxRecDepth 100000 in
theorem k_X6_isTriple (l : Launch) (D : va_G) (cy : Nat → ClassId) (p0 : Int32) (p1 : Int32) (p2 : Int32) (sz : Nat) (Q : Int32 → Prop) (hw : wp_X6_isTriple p0 p1 p2 Q) : Met l yX6_isTriple (wA yX6_isTriple cX6_isTriple 3 (some .boolean)) { frames := 1, cells := 0, slots := 0, locals := 22 } (kPc [.int p0, .int p1, .int p2] D cy (List.flatten ([] : List va_W)) sz) (kSi Q) 0 0 (fun _ => False) := by
  refine Met.ofW (cc := cX6_isTriple) (maxL := 3) (ret := (some .boolean)) (by decide) rfl ?_
  intro p e s m args below meth c s₁ B hml hv
  obtain ⟨rfl, hsz, hN, hP, hK, hD0⟩ := hv
  have hx := B.exec
  have hb := B.bytes
  have hr := B.returns
  have hts0 := atoms_spec (ws := wA yX6_isTriple cX6_isTriple 3 (some .boolean)) B.pre
  have hts := fun w (h : w ∈ wsL_law) => hts0 w (List.mem_cons_of_mem _ h)
  have hown : s.vm.findClass RX6 = some m.cls := findClass_of_methodNamed B.named
  have hlocks := B.notSynchronized
  subst hsz
  have hD := hD0
  have hl := lv_entry ([.int p0, .int p1, .int p2]) (n := 3) (Nat.le_of_ble_eq_true rfl)
  rw [lg_entry_eq]
  generalize (lg_sl ([.int p0, .int p1, .int p2]) ++ List.replicate (3 - (lg_sl ([.int p0, .int p1, .int p2])).length) Slot.unset).toArray = ls at hl ⊢
  have hl : lv_has ls 3 [(0, .int p0), (1, .int p1), (2, .int p2)] := hl
  unfold wp_X6_isTriple at hw
  refine lv_iload_n hx hb dX6_isTriple_0 rfl (lv_at hl 0 rfl) ?_
  refine lv_bipush (v := (-9)) hx hb dX6_isTriple_1 (by decide) ?_
  refine lv_bipush (v := 9) hx hb dX6_isTriple_3 (by decide) ?_
  refine kc_i (va_runS (As := [.int p0, .int ((-9)), .int (9)]) (rest := []) ⟨hx, hb, hml, hown, hts⟩ (k_X6_within l D cy p0 (-9 : Int32) (9 : Int32) _ _ hw) (va_cwS 3 hts (gS mw_10_5 mw_10_6 mw_1_5 mw_10_7) rfl rfl rfl (by decide +kernel) ⟨Nat.le_of_ble_eq_true rfl, Nat.le_of_ble_eq_true rfl⟩) (fPre hN hK hP hD [] rfl rfl _) rfl rfl hl.1 rfl (lv_room (Nat.le_of_ble_eq_true rfl)) dX6_isTriple_5 ⟨Nat.zero_le _, Nat.zero_le _⟩) (fun r1 hw => ?_)
  refine lv_if_eq (tgt := 49) hx hb dX6_isTriple_8 (by decide) (fun c9 => ?_) (fun c9 => ?_)
  · have hw := hw.1 c9
    refine lv_iconst (v := 0) hx hb dX6_isTriple_49 (by decide) ?_
    exact W.zret (v := 0) hx hb hr rfl (fun t ht hW => ⟨0, rfl, hw, ht⟩) (fun q h => by cases h) dX6_isTriple_50
  · have hw := hw.2 c9
    refine lv_iload_n hx hb dX6_isTriple_11 rfl (lv_at hl 1 rfl) ?_
    refine lv_bipush (v := (-9)) hx hb dX6_isTriple_12 (by decide) ?_
    refine lv_bipush (v := 9) hx hb dX6_isTriple_14 (by decide) ?_
    refine kc_i (va_runS (As := [.int p1, .int ((-9)), .int (9)]) (rest := []) ⟨hx, hb, hml, hown, hts⟩ (k_X6_within l D cy p1 (-9 : Int32) (9 : Int32) _ _ hw) (va_cwS 3 hts (gS mw_10_5 mw_10_6 mw_1_5 mw_10_7) rfl rfl rfl (by decide +kernel) ⟨Nat.le_of_ble_eq_true rfl, Nat.le_of_ble_eq_true rfl⟩) (fPre hN hK hP hD [] rfl rfl _) rfl rfl hl.1 rfl (lv_room (Nat.le_of_ble_eq_true rfl)) dX6_isTriple_16 ⟨Nat.zero_le _, Nat.zero_le _⟩) (fun r2 hw => ?_)
    refine lv_if_eq (tgt := 49) hx hb dX6_isTriple_19 (by decide) (fun c8 => ?_) (fun c8 => ?_)
    · have hw := hw.1 c8
      refine lv_iconst (v := 0) hx hb dX6_isTriple_49 (by decide) ?_
      exact W.zret (v := 0) hx hb hr rfl (fun t ht hW => ⟨0, rfl, hw, ht⟩) (fun q h => by cases h) dX6_isTriple_50
    · have hw := hw.2 c8
      refine lv_iload_n hx hb dX6_isTriple_22 rfl (lv_at hl 2 rfl) ?_
      refine lv_bipush (v := (-9)) hx hb dX6_isTriple_23 (by decide) ?_
      refine lv_bipush (v := 9) hx hb dX6_isTriple_25 (by decide) ?_
      refine kc_i (va_runS (As := [.int p2, .int ((-9)), .int (9)]) (rest := []) ⟨hx, hb, hml, hown, hts⟩ (k_X6_within l D cy p2 (-9 : Int32) (9 : Int32) _ _ hw) (va_cwS 3 hts (gS mw_10_5 mw_10_6 mw_1_5 mw_10_7) rfl rfl rfl (by decide +kernel) ⟨Nat.le_of_ble_eq_true rfl, Nat.le_of_ble_eq_true rfl⟩) (fPre hN hK hP hD [] rfl rfl _) rfl rfl hl.1 rfl (lv_room (Nat.le_of_ble_eq_true rfl)) dX6_isTriple_27 ⟨Nat.zero_le _, Nat.zero_le _⟩) (fun r3 hw => ?_)
      refine lv_if_eq (tgt := 49) hx hb dX6_isTriple_30 (by decide) (fun c7 => ?_) (fun c7 => ?_)
      · have hw := hw.1 c7
        refine lv_iconst (v := 0) hx hb dX6_isTriple_49 (by decide) ?_
        exact W.zret (v := 0) hx hb hr rfl (fun t ht hW => ⟨0, rfl, hw, ht⟩) (fun q h => by cases h) dX6_isTriple_50
      · have hw := hw.2 c7
        refine lv_iload_n hx hb dX6_isTriple_33 rfl (lv_at hl 0 rfl) ?_
        refine lv_if_ne (tgt := 45) hx hb dX6_isTriple_34 (by decide) (fun c6 => ?_) (fun c6 => ?_)
        · have hw := hw.2 c6
          refine lv_iconst (v := 1) hx hb dX6_isTriple_45 (by decide) ?_
          refine lv_goto (tgt := 50) hx hb dX6_isTriple_46 (by decide) ?_
          exact W.zret (v := 1) hx hb hr rfl (fun t ht hW => ⟨1, rfl, hw, ht⟩) (fun q h => by cases h) dX6_isTriple_50
        · have hw := hw.1 c6
          refine lv_iload_n hx hb dX6_isTriple_37 rfl (lv_at hl 1 rfl) ?_
          refine lv_if_ne (tgt := 45) hx hb dX6_isTriple_38 (by decide) (fun c5 => ?_) (fun c5 => ?_)
          · have hw := hw.2 c5
            refine lv_iconst (v := 1) hx hb dX6_isTriple_45 (by decide) ?_
            refine lv_goto (tgt := 50) hx hb dX6_isTriple_46 (by decide) ?_
            exact W.zret (v := 1) hx hb hr rfl (fun t ht hW => ⟨1, rfl, hw, ht⟩) (fun q h => by cases h) dX6_isTriple_50
          · have hw := hw.1 c5
            refine lv_iload_n hx hb dX6_isTriple_41 rfl (lv_at hl 2 rfl) ?_
            refine lv_if_eq (tgt := 49) hx hb dX6_isTriple_42 (by decide) (fun c4 => ?_) (fun c4 => ?_)
            · have hw := hw.1 c4
              refine lv_iconst (v := 0) hx hb dX6_isTriple_49 (by decide) ?_
              exact W.zret (v := 0) hx hb hr rfl (fun t ht hW => ⟨0, rfl, hw, ht⟩) (fun q h => by cases h) dX6_isTriple_50
            · have hw := hw.2 c4
              refine lv_iconst (v := 1) hx hb dX6_isTriple_45 (by decide) ?_
              refine lv_goto (tgt := 50) hx hb dX6_isTriple_46 (by decide) ?_
              exact W.zret (v := 1) hx hb hr rfl (fun t ht hW => ⟨1, rfl, hw, ht⟩) (fun q h => by cases h) dX6_isTriple_50
set_option maxHeartbeats 4000000 in
set_option maxRecDepth 100000 in
theorem k_X6_leading (l : Launch) (D : va_G) (cy : Nat → ClassId) (p0 : Int32) (p1 : Int32) (p2 : Int32) (sz : Nat) (Q : Int32 → Prop) (hw : wp_X6_leading p0 p1 p2 Q) : Met l yX6_leading (wA yX6_leading cX6_leading 3 (some .int)) { frames := 1, cells := 0, slots := 0, locals := 20 } (kPc [.int p0, .int p1, .int p2] D cy (List.flatten ([] : List va_W)) sz) (kSi Q) 0 0 (fun _ => False) := by
  refine Met.ofW (cc := cX6_leading) (maxL := 3) (ret := (some .int)) (by decide) rfl ?_
  intro p e s m args below meth c s₁ B hml hv
  obtain ⟨rfl, hsz, hN, hP, hK, hD0⟩ := hv
  have hx := B.exec
  have hb := B.bytes
  have hr := B.returns
  have hts0 := atoms_spec (ws := wA yX6_leading cX6_leading 3 (some .int)) B.pre
  have hts := fun w (h : w ∈ wsL_law) => hts0 w (List.mem_cons_of_mem _ h)
  have hown : s.vm.findClass RX6 = some m.cls := findClass_of_methodNamed B.named
  have hlocks := B.notSynchronized
  subst hsz
  have hD := hD0
  have hl := lv_entry ([.int p0, .int p1, .int p2]) (n := 3) (Nat.le_of_ble_eq_true rfl)
  rw [lg_entry_eq]
  generalize (lg_sl ([.int p0, .int p1, .int p2]) ++ List.replicate (3 - (lg_sl ([.int p0, .int p1, .int p2])).length) Slot.unset).toArray = ls at hl ⊢
  have hl : lv_has ls 3 [(0, .int p0), (1, .int p1), (2, .int p2)] := hl
  unfold wp_X6_leading at hw
  refine lv_iload_n hx hb dX6_leading_0 rfl (lv_at hl 0 rfl) ?_
  refine lv_if_eq (tgt := 11) hx hb dX6_leading_1 (by decide) (fun c5 => ?_) (fun c5 => ?_)
  · have hw := hw.1 c5
    refine lv_iload_n hx hb dX6_leading_11 rfl (lv_at hl 1 rfl) ?_
    refine lv_if_eq (tgt := 22) hx hb dX6_leading_12 (by decide) (fun c3 => ?_) (fun c3 => ?_)
    · have hw := hw.1 c3
      refine lv_iload_n hx hb dX6_leading_22 rfl (lv_at hl 2 rfl) ?_
      refine kc_i (va_runS (As := [.int p2]) (rest := []) ⟨hx, hb, hml, hown, hts⟩ (k_X6_signOf l D cy p2 _ _ hw) (va_cwS 1 hts (gS mw_9_0 mw_9_1 mw_1_5 mw_9_2) rfl rfl rfl (by decide +kernel) ⟨Nat.le_of_ble_eq_true rfl, Nat.le_of_ble_eq_true rfl⟩) (fPre hN hK hP hD [] rfl rfl _) rfl rfl hl.1 rfl (lv_room (Nat.le_of_ble_eq_true rfl)) dX6_leading_23 ⟨Nat.zero_le _, Nat.zero_le _⟩) (fun r1 hw => ?_)
      exact W.iret (v := r1) hx hb hr (fun t ht hW => ⟨r1, rfl, hw, ht⟩) (fun q h => by cases h) dX6_leading_26
    · have hw := hw.2 c3
      refine lv_iload_n hx hb dX6_leading_15 rfl (lv_at hl 1 rfl) ?_
      refine kc_i (va_runS (As := [.int p1]) (rest := []) ⟨hx, hb, hml, hown, hts⟩ (k_X6_signOf l D cy p1 _ _ hw) (va_cwS 1 hts (gS mw_9_0 mw_9_1 mw_1_5 mw_9_2) rfl rfl rfl (by decide +kernel) ⟨Nat.le_of_ble_eq_true rfl, Nat.le_of_ble_eq_true rfl⟩) (fPre hN hK hP hD [] rfl rfl _) rfl rfl hl.1 rfl (lv_room (Nat.le_of_ble_eq_true rfl)) dX6_leading_16 ⟨Nat.zero_le _, Nat.zero_le _⟩) (fun r2 hw => ?_)
      refine lv_goto (tgt := 26) hx hb dX6_leading_19 (by decide) ?_
      exact W.iret (v := r2) hx hb hr (fun t ht hW => ⟨r2, rfl, hw, ht⟩) (fun q h => by cases h) dX6_leading_26
  · have hw := hw.2 c5
    refine lv_iload_n hx hb dX6_leading_4 rfl (lv_at hl 0 rfl) ?_
    refine kc_i (va_runS (As := [.int p0]) (rest := []) ⟨hx, hb, hml, hown, hts⟩ (k_X6_signOf l D cy p0 _ _ hw) (va_cwS 1 hts (gS mw_9_0 mw_9_1 mw_1_5 mw_9_2) rfl rfl rfl (by decide +kernel) ⟨Nat.le_of_ble_eq_true rfl, Nat.le_of_ble_eq_true rfl⟩) (fPre hN hK hP hD [] rfl rfl _) rfl rfl hl.1 rfl (lv_room (Nat.le_of_ble_eq_true rfl)) dX6_leading_5 ⟨Nat.zero_le _, Nat.zero_le _⟩) (fun r4 hw => ?_)
    refine lv_goto (tgt := 26) hx hb dX6_leading_8 (by decide) ?_
    exact W.iret (v := r4) hx hb hr (fun t ht hW => ⟨r4, rfl, hw, ht⟩) (fun q h => by cases h) dX6_leading_26
set_option maxHeartbeats 4000000 in
set_option maxRecDepth 100000 in
theorem k_X6_isStation (l : Launch) (D : va_G) (cy : Nat → ClassId) (hMo hMo_isThere hMo_stationX hMo_stationY hMo_stationZ hMo_told hMo_weight hMo_poleX hMo_poleY hMo_poleZ hMo_lesser hMo_greater hMo_misfit hMo_nodal hMo_order hMo_placeOf hMo_unlikeX hMo_unlikeY hMo_unlikeZ hMo_farUp hMo_farDown hMo_axisOf : Nat) (Mo_isThere : Nat → Int32) (Mo_stationX : Nat → Int32) (Mo_stationY : Nat → Int32) (Mo_stationZ : Nat → Int32) (Mo_told : Nat → Int32) (Mo_weight : Nat → Int32) (Mo_size : Int32) (Mo_extra : Int32) (Mo_poles : Int32) (Mo_poleX : Nat → Int32) (Mo_poleY : Nat → Int32) (Mo_poleZ : Nat → Int32) (Mo_pairs : Int32) (Mo_lesser : Nat → Int32) (Mo_greater : Nat → Int32) (Mo_isKnown : Int32) (Mo_least : Int32) (Mo_kept : Int32) (Mo_misfit : Nat → Int32) (Mo_nodal : Nat → Int32) (Mo_order : Nat → Int32) (Mo_placeOf : Nat → Int32) (Mo_axisX : Int32) (Mo_axisY : Int32) (Mo_axisZ : Int32) (Mo_axes : Int32) (Mo_unlikeX : Nat → Int32) (Mo_unlikeY : Nat → Int32) (Mo_unlikeZ : Nat → Int32) (Mo_farUp : Nat → Int64) (Mo_farDown : Nat → Int64) (Mo_axisOf : Nat → Int32) (p0 : Int32) (sz : Nat) (Q : Int32 → Prop) (hw : wp_X6_isStation p0 Mo_isThere Q) : Met l yX6_isStation (wA yX6_isStation cX6_isStation 2 (some .boolean)) { frames := 1, cells := 0, slots := 0, locals := 22 } (kPc [.ref hMo, .int p0] D cy (List.flatten [wMo cy hMo hMo_isThere hMo_stationX hMo_stationY hMo_stationZ hMo_told hMo_weight hMo_poleX hMo_poleY hMo_poleZ hMo_lesser hMo_greater hMo_misfit hMo_nodal hMo_order hMo_placeOf hMo_unlikeX hMo_unlikeY hMo_unlikeZ hMo_farUp hMo_farDown hMo_axisOf Mo_isThere Mo_stationX Mo_stationY Mo_stationZ Mo_told Mo_weight Mo_size Mo_extra Mo_poles Mo_poleX Mo_poleY Mo_poleZ Mo_pairs Mo_lesser Mo_greater Mo_isKnown Mo_least Mo_kept Mo_misfit Mo_nodal Mo_order Mo_placeOf Mo_axisX Mo_axisY Mo_axisZ Mo_axes Mo_unlikeX Mo_unlikeY Mo_unlikeZ Mo_farUp Mo_farDown Mo_axisOf]) sz) (kSi Q) 0 0 (fun _ => False) := by
  refine Met.ofW (cc := cX6_isStation) (maxL := 2) (ret := (some .boolean)) (by decide) rfl ?_
  intro p e s m args below meth c s₁ B hml hv
  obtain ⟨rfl, hsz, hN, hP, hK, hD0⟩ := hv
  have hx := B.exec
  have hb := B.bytes
  have hr := B.returns
  have hts0 := atoms_spec (ws := wA yX6_isStation cX6_isStation 2 (some .boolean)) B.pre
  have hts := fun w (h : w ∈ wsL_law) => hts0 w (List.mem_cons_of_mem _ h)
  have hown : s.vm.findClass RX6 = some m.cls := findClass_of_methodNamed B.named
  have hlocks := B.notSynchronized
  subst hsz
  have hD := hD0
  have hl := lv_entry ([.ref hMo, .int p0]) (n := 2) (Nat.le_of_ble_eq_true rfl)
  rw [lg_entry_eq]
  generalize (lg_sl ([.ref hMo, .int p0]) ++ List.replicate (2 - (lg_sl ([.ref hMo, .int p0])).length) Slot.unset).toArray = ls at hl ⊢
  have hl : lv_has ls 2 [(0, .ref hMo), (1, .int p0)] := hl
  unfold wp_X6_isStation at hw
  refine lv_iload_n hx hb dX6_isStation_0 rfl (lv_at hl 1 rfl) ?_
  refine lv_iconst (v := 0) hx hb dX6_isStation_1 (by decide) ?_
  refine lv_bipush (v := 23) hx hb dX6_isStation_2 (by decide) ?_
  refine kc_i (va_runS (As := [.int p0, .int (0), .int (23)]) (rest := []) ⟨hx, hb, hml, hown, hts⟩ (k_X6_within l D cy p0 (0 : Int32) (23 : Int32) _ _ hw) (va_cwS 3 hts (gS mw_10_5 mw_10_6 mw_1_5 mw_10_7) rfl rfl rfl (by decide +kernel) ⟨Nat.le_of_ble_eq_true rfl, Nat.le_of_ble_eq_true rfl⟩) (fPre hN hK hP hD [] rfl rfl _) rfl rfl hl.1 rfl (lv_room (Nat.le_of_ble_eq_true rfl)) dX6_isStation_4 ⟨Nat.zero_le _, Nat.zero_le _⟩) (fun r1 hw => ?_)
  refine lv_if_eq (tgt := 23) hx hb dX6_isStation_7 (by decide) (fun c3 => ?_) (fun c3 => ?_)
  · have hw := hw.1 c3
    refine lv_iconst (v := 0) hx hb dX6_isStation_23 (by decide) ?_
    exact W.zret (v := 0) hx hb hr rfl (fun t ht hW => ⟨0, rfl, hw, ht⟩) (fun q h => by cases h) dX6_isStation_24
  · have hw := hw.2 c3
    refine lv_aload_n hx hb dX6_isStation_10 rfl (lv_at hl 0 rfl) ?_
    refine va_get (D := D) (ci := 6) (v := .ref hMo_isThere) (C := RX6) (T := TX6) (N := 32) hx hb hts inlX6 hown hK hP 0 rfl rfl 0 (by decide) (hts (.fieldLink RX6 7 "SquarePlanesModel" "isThere" "[Z") mw_7_8) (fun _ h9 => h9) rfl dX6_isStation_11 ?_
    refine lv_iload_n hx hb dX6_isStation_14 rfl (lv_at hl 1 rfl) ?_
    refine va_zald hx hb hK hP 1 1 rfl rfl hw.1 dX6_isStation_15 ?_
    have hw := hw.2
    refine lv_if_eq (tgt := 23) hx hb dX6_isStation_16 (by decide) (fun c2 => ?_) (fun c2 => ?_)
    · have hw := hw.1 c2
      refine lv_iconst (v := 0) hx hb dX6_isStation_23 (by decide) ?_
      exact W.zret (v := 0) hx hb hr rfl (fun t ht hW => ⟨0, rfl, hw, ht⟩) (fun q h => by cases h) dX6_isStation_24
    · have hw := hw.2 c2
      refine lv_iconst (v := 1) hx hb dX6_isStation_19 (by decide) ?_
      refine lv_goto (tgt := 24) hx hb dX6_isStation_20 (by decide) ?_
      exact W.zret (v := 1) hx hb hr rfl (fun t ht hW => ⟨1, rfl, hw, ht⟩) (fun q h => by cases h) dX6_isStation_24
set_option maxHeartbeats 4000000 in
set_option maxRecDepth 100000 in
theorem k_X6_turn (l : Launch) (D : va_G) (cy : Nat → ClassId) (hMo hMo_isThere hMo_stationX hMo_stationY hMo_stationZ hMo_told hMo_weight hMo_poleX hMo_poleY hMo_poleZ hMo_lesser hMo_greater hMo_misfit hMo_nodal hMo_order hMo_placeOf hMo_unlikeX hMo_unlikeY hMo_unlikeZ hMo_farUp hMo_farDown hMo_axisOf : Nat) (Mo_isThere : Nat → Int32) (Mo_stationX : Nat → Int32) (Mo_stationY : Nat → Int32) (Mo_stationZ : Nat → Int32) (Mo_told : Nat → Int32) (Mo_weight : Nat → Int32) (Mo_size : Int32) (Mo_extra : Int32) (Mo_poles : Int32) (Mo_poleX : Nat → Int32) (Mo_poleY : Nat → Int32) (Mo_poleZ : Nat → Int32) (Mo_pairs : Int32) (Mo_lesser : Nat → Int32) (Mo_greater : Nat → Int32) (Mo_isKnown : Int32) (Mo_least : Int32) (Mo_kept : Int32) (Mo_misfit : Nat → Int32) (Mo_nodal : Nat → Int32) (Mo_order : Nat → Int32) (Mo_placeOf : Nat → Int32) (Mo_axisX : Int32) (Mo_axisY : Int32) (Mo_axisZ : Int32) (Mo_axes : Int32) (Mo_unlikeX : Nat → Int32) (Mo_unlikeY : Nat → Int32) (Mo_unlikeZ : Nat → Int32) (Mo_farUp : Nat → Int64) (Mo_farDown : Nat → Int64) (Mo_axisOf : Nat → Int32) (p0 : Int32) (sz : Nat) (Q : Int32 → (Nat → Int32) → (Nat → Int32) → (Nat → Int32) → Int32 → Prop) (hw : wp_X6_turn p0 Mo_isThere Mo_stationX Mo_stationY Mo_stationZ Mo_isKnown Q) : Met l yX6_turn (wA yX6_turn cX6_turn 4 (some .int)) { frames := 1, cells := 0, slots := 0, locals := 25 } (kPc [.ref hMo, .int p0] D cy (List.flatten [wMo cy hMo hMo_isThere hMo_stationX hMo_stationY hMo_stationZ hMo_told hMo_weight hMo_poleX hMo_poleY hMo_poleZ hMo_lesser hMo_greater hMo_misfit hMo_nodal hMo_order hMo_placeOf hMo_unlikeX hMo_unlikeY hMo_unlikeZ hMo_farUp hMo_farDown hMo_axisOf Mo_isThere Mo_stationX Mo_stationY Mo_stationZ Mo_told Mo_weight Mo_size Mo_extra Mo_poles Mo_poleX Mo_poleY Mo_poleZ Mo_pairs Mo_lesser Mo_greater Mo_isKnown Mo_least Mo_kept Mo_misfit Mo_nodal Mo_order Mo_placeOf Mo_axisX Mo_axisY Mo_axisZ Mo_axes Mo_unlikeX Mo_unlikeY Mo_unlikeZ Mo_farUp Mo_farDown Mo_axisOf]) sz) (va_Qi (fun (r : Int32) (u : (Nat → Int32) × (Nat → Int32) × (Nat → Int32) × Int32) => Q r u.1 u.2.1 u.2.2.1 u.2.2.2) (fun u t => kB D cy (va_A (List.flatten [wMo cy hMo hMo_isThere hMo_stationX hMo_stationY hMo_stationZ hMo_told hMo_weight hMo_poleX hMo_poleY hMo_poleZ hMo_lesser hMo_greater hMo_misfit hMo_nodal hMo_order hMo_placeOf hMo_unlikeX hMo_unlikeY hMo_unlikeZ hMo_farUp hMo_farDown hMo_axisOf Mo_isThere Mo_stationX Mo_stationY Mo_stationZ Mo_told Mo_weight Mo_size Mo_extra Mo_poles Mo_poleX Mo_poleY Mo_poleZ Mo_pairs Mo_lesser Mo_greater Mo_isKnown Mo_least Mo_kept Mo_misfit Mo_nodal Mo_order Mo_placeOf Mo_axisX Mo_axisY Mo_axisZ Mo_axes Mo_unlikeX Mo_unlikeY Mo_unlikeZ Mo_farUp Mo_farDown Mo_axisOf]) sz) (List.flatten [wMo cy hMo hMo_isThere hMo_stationX hMo_stationY hMo_stationZ hMo_told hMo_weight hMo_poleX hMo_poleY hMo_poleZ hMo_lesser hMo_greater hMo_misfit hMo_nodal hMo_order hMo_placeOf hMo_unlikeX hMo_unlikeY hMo_unlikeZ hMo_farUp hMo_farDown hMo_axisOf Mo_isThere u.1 u.2.1 u.2.2.1 Mo_told Mo_weight Mo_size Mo_extra Mo_poles Mo_poleX Mo_poleY Mo_poleZ Mo_pairs Mo_lesser Mo_greater u.2.2.2 Mo_least Mo_kept Mo_misfit Mo_nodal Mo_order Mo_placeOf Mo_axisX Mo_axisY Mo_axisZ Mo_axes Mo_unlikeX Mo_unlikeY Mo_unlikeZ Mo_farUp Mo_farDown Mo_axisOf]) t) (va_A (List.flatten [wMo cy hMo hMo_isThere hMo_stationX hMo_stationY hMo_stationZ hMo_told hMo_weight hMo_poleX hMo_poleY hMo_poleZ hMo_lesser hMo_greater hMo_misfit hMo_nodal hMo_order hMo_placeOf hMo_unlikeX hMo_unlikeY hMo_unlikeZ hMo_farUp hMo_farDown hMo_axisOf Mo_isThere Mo_stationX Mo_stationY Mo_stationZ Mo_told Mo_weight Mo_size Mo_extra Mo_poles Mo_poleX Mo_poleY Mo_poleZ Mo_pairs Mo_lesser Mo_greater Mo_isKnown Mo_least Mo_kept Mo_misfit Mo_nodal Mo_order Mo_placeOf Mo_axisX Mo_axisY Mo_axisZ Mo_axes Mo_unlikeX Mo_unlikeY Mo_unlikeZ Mo_farUp Mo_farDown Mo_axisOf]) sz)) 0 0 (va_A (List.flatten [wMo cy hMo hMo_isThere hMo_stationX hMo_stationY hMo_stationZ hMo_told hMo_weight hMo_poleX hMo_poleY hMo_poleZ hMo_lesser hMo_greater hMo_misfit hMo_nodal hMo_order hMo_placeOf hMo_unlikeX hMo_unlikeY hMo_unlikeZ hMo_farUp hMo_farDown hMo_axisOf Mo_isThere Mo_stationX Mo_stationY Mo_stationZ Mo_told Mo_weight Mo_size Mo_extra Mo_poles Mo_poleX Mo_poleY Mo_poleZ Mo_pairs Mo_lesser Mo_greater Mo_isKnown Mo_least Mo_kept Mo_misfit Mo_nodal Mo_order Mo_placeOf Mo_axisX Mo_axisY Mo_axisZ Mo_axes Mo_unlikeX Mo_unlikeY Mo_unlikeZ Mo_farUp Mo_farDown Mo_axisOf]) sz) := by
  refine Met.ofW (cc := cX6_turn) (maxL := 4) (ret := (some .int)) (by decide) rfl ?_
  intro p e s m args below meth c s₁ B hml hv
  obtain ⟨rfl, hsz, hN, hP, hK, hD0⟩ := hv
  have hx := B.exec
  have hb := B.bytes
  have hr := B.returns
  have hts0 := atoms_spec (ws := wA yX6_turn cX6_turn 4 (some .int)) B.pre
  have hts := fun w (h : w ∈ wsL_law) => hts0 w (List.mem_cons_of_mem _ h)
  have hown : s.vm.findClass RX6 = some m.cls := findClass_of_methodNamed B.named
  have hlocks := B.notSynchronized
  subst hsz
  have hD := hD0.self (sz := s.heap.size)
  generalize hAe : va_A (List.flatten [wMo cy hMo hMo_isThere hMo_stationX hMo_stationY hMo_stationZ hMo_told hMo_weight hMo_poleX hMo_poleY hMo_poleZ hMo_lesser hMo_greater hMo_misfit hMo_nodal hMo_order hMo_placeOf hMo_unlikeX hMo_unlikeY hMo_unlikeZ hMo_farUp hMo_farDown hMo_axisOf Mo_isThere Mo_stationX Mo_stationY Mo_stationZ Mo_told Mo_weight Mo_size Mo_extra Mo_poles Mo_poleX Mo_poleY Mo_poleZ Mo_pairs Mo_lesser Mo_greater Mo_isKnown Mo_least Mo_kept Mo_misfit Mo_nodal Mo_order Mo_placeOf Mo_axisX Mo_axisY Mo_axisZ Mo_axes Mo_unlikeX Mo_unlikeY Mo_unlikeZ Mo_farUp Mo_farDown Mo_axisOf]) s.heap.size = A at hD ⊢
  have hA : ∀ q : Nat, s.heap.size ≤ q → A q := fun q h => by rw [← hAe]; exact Or.inr h
  have hS : va_S A s.heap s.heap [] := va_S.rf
  have hP : va_P D vwCl (List.flatten [wMo cy hMo hMo_isThere hMo_stationX hMo_stationY hMo_stationZ hMo_told hMo_weight hMo_poleX hMo_poleY hMo_poleZ hMo_lesser hMo_greater hMo_misfit hMo_nodal hMo_order hMo_placeOf hMo_unlikeX hMo_unlikeY hMo_unlikeZ hMo_farUp hMo_farDown hMo_axisOf Mo_isThere Mo_stationX Mo_stationY Mo_stationZ Mo_told Mo_weight Mo_size Mo_extra Mo_poles Mo_poleX Mo_poleY Mo_poleZ Mo_pairs Mo_lesser Mo_greater Mo_isKnown Mo_least Mo_kept Mo_misfit Mo_nodal Mo_order Mo_placeOf Mo_axisX Mo_axisY Mo_axisZ Mo_axes Mo_unlikeX Mo_unlikeY Mo_unlikeZ Mo_farUp Mo_farDown Mo_axisOf]) s.heap := hP
  have hl := lv_entry ([.ref hMo, .int p0]) (n := 4) (Nat.le_of_ble_eq_true rfl)
  rw [lg_entry_eq]
  generalize (lg_sl ([.ref hMo, .int p0]) ++ List.replicate (4 - (lg_sl ([.ref hMo, .int p0])).length) Slot.unset).toArray = ls at hl ⊢
  have hl : lv_has ls 4 [(0, .ref hMo), (1, .int p0)] := hl
  unfold wp_X6_turn at hw
  refine lv_iload_n hx hb dX6_turn_0 rfl (lv_at hl 1 rfl) ?_
  refine lv_iconst (v := 0) hx hb dX6_turn_1 (by decide) ?_
  refine lv_iconst (v := 3) hx hb dX6_turn_2 (by decide) ?_
  refine kc_i (va_runS (As := [.int p0, .int (0), .int (3)]) (rest := []) ⟨hx, hb, hml, hown, hts⟩ (k_X6_within l D cy p0 (0 : Int32) (3 : Int32) _ _ hw) (va_cwS 3 hts (gS mw_10_5 mw_10_6 mw_1_5 mw_10_7) rfl rfl rfl (by decide +kernel) ⟨Nat.le_of_ble_eq_true rfl, Nat.le_of_ble_eq_true rfl⟩) (fPre hN hK hP hD [] rfl rfl _) rfl rfl hl.1 rfl (lv_room (Nat.le_of_ble_eq_true rfl)) dX6_turn_3 ⟨Nat.zero_le _, Nat.zero_le _⟩) (fun r1 hw => ?_)
  refine lv_if_ne (tgt := 12) hx hb dX6_turn_6 (by decide) (fun c2 => ?_) (fun c2 => ?_)
  · have hw := hw.2 c2
    refine lv_iconst (v := 0) hx hb dX6_turn_12 (by decide) ?_
    refine lv_istore_n (lv' := [(2, .int 0), (0, .ref hMo), (1, .int p0)]) hx hb dX6_turn_13 rfl hl (by decide) rfl (fun ls hl => ?_)
    refine lv_iconst (v := 0) hx hb dX6_turn_14 (by decide) ?_
    refine lv_istore_n (lv' := [(3, .int 0), (2, .int 0), (0, .ref hMo), (1, .int p0)]) hx hb dX6_turn_15 rfl hl (by decide) rfl (fun ls hl => ?_)
    obtain ⟨n16, hw⟩ := hw
    have kl16 : ∀ (K16_54 : Int32 → Int32 → (Nat → Int32) → (Nat → Int32) → (Nat → Int32) → Prop) (hk16_54 : ∀ (y2_16 : Int32) (y3_16 : Int32) (Mo_stationX_v_16 : Nat → Int32) (Mo_stationY_v_16 : Nat → Int32) (Mo_stationZ_v_16 : Nat → Int32) (H : Heap) (locs : List Loc) (ls : Array Slot), K16_54 y2_16 y3_16 Mo_stationX_v_16 Mo_stationY_v_16 Mo_stationZ_v_16 → va_P D vwCl (List.flatten [wMo cy hMo hMo_isThere hMo_stationX hMo_stationY hMo_stationZ hMo_told hMo_weight hMo_poleX hMo_poleY hMo_poleZ hMo_lesser hMo_greater hMo_misfit hMo_nodal hMo_order hMo_placeOf hMo_unlikeX hMo_unlikeY hMo_unlikeZ hMo_farUp hMo_farDown hMo_axisOf Mo_isThere Mo_stationX_v_16 Mo_stationY_v_16 Mo_stationZ_v_16 Mo_told Mo_weight Mo_size Mo_extra Mo_poles Mo_poleX Mo_poleY Mo_poleZ Mo_pairs Mo_lesser Mo_greater Mo_isKnown Mo_least Mo_kept Mo_misfit Mo_nodal Mo_order Mo_placeOf Mo_axisX Mo_axisY Mo_axisZ Mo_axes Mo_unlikeX Mo_unlikeY Mo_unlikeZ Mo_farUp Mo_farDown Mo_axisOf]) H → va_D A (List.flatten [wMo cy hMo hMo_isThere hMo_stationX hMo_stationY hMo_stationZ hMo_told hMo_weight hMo_poleX hMo_poleY hMo_poleZ hMo_lesser hMo_greater hMo_misfit hMo_nodal hMo_order hMo_placeOf hMo_unlikeX hMo_unlikeY hMo_unlikeZ hMo_farUp hMo_farDown hMo_axisOf Mo_isThere Mo_stationX_v_16 Mo_stationY_v_16 Mo_stationZ_v_16 Mo_told Mo_weight Mo_size Mo_extra Mo_poles Mo_poleX Mo_poleY Mo_poleZ Mo_pairs Mo_lesser Mo_greater Mo_isKnown Mo_least Mo_kept Mo_misfit Mo_nodal Mo_order Mo_placeOf Mo_axisX Mo_axisY Mo_axisZ Mo_axes Mo_unlikeX Mo_unlikeY Mo_unlikeZ Mo_farUp Mo_farDown Mo_axisOf]) → va_S A s.heap H locs → lv_has ls 4 [(0, .ref hMo), (1, .int p0), (2, .int y2_16), (3, .int y3_16)] → W p l e (headSpec (wA yX6_turn cX6_turn 4 (some .int)) { frames := 1, cells := 0, slots := 0, locals := 25 }).room s m #[.ref hMo, .int p0] below meth c H locs 0 0 (MQ below (va_Qi (fun (r : Int32) (u : (Nat → Int32) × (Nat → Int32) × (Nat → Int32) × Int32) => Q r u.1 u.2.1 u.2.2.1 u.2.2.2) (fun u t => kB D cy A (List.flatten [wMo cy hMo hMo_isThere hMo_stationX hMo_stationY hMo_stationZ hMo_told hMo_weight hMo_poleX hMo_poleY hMo_poleZ hMo_lesser hMo_greater hMo_misfit hMo_nodal hMo_order hMo_placeOf hMo_unlikeX hMo_unlikeY hMo_unlikeZ hMo_farUp hMo_farDown hMo_axisOf Mo_isThere u.1 u.2.1 u.2.2.1 Mo_told Mo_weight Mo_size Mo_extra Mo_poles Mo_poleX Mo_poleY Mo_poleZ Mo_pairs Mo_lesser Mo_greater u.2.2.2 Mo_least Mo_kept Mo_misfit Mo_nodal Mo_order Mo_placeOf Mo_axisX Mo_axisY Mo_axisZ Mo_axes Mo_unlikeX Mo_unlikeY Mo_unlikeZ Mo_farUp Mo_farDown Mo_axisOf]) t) A) #[.ref hMo, .int p0] s 0 0 A) (F0 m 54 ls [])) (n : Nat) (y2_16 : Int32) (y3_16 : Int32) (Mo_stationX_v_16 : Nat → Int32) (Mo_stationY_v_16 : Nat → Int32) (Mo_stationZ_v_16 : Nat → Int32) (H : Heap) (locs : List Loc) (ls : Array Slot), wp_X6_turn_L16 p0 Mo_isThere K16_54 n y2_16 y3_16 Mo_stationX_v_16 Mo_stationY_v_16 Mo_stationZ_v_16 → va_P D vwCl (List.flatten [wMo cy hMo hMo_isThere hMo_stationX hMo_stationY hMo_stationZ hMo_told hMo_weight hMo_poleX hMo_poleY hMo_poleZ hMo_lesser hMo_greater hMo_misfit hMo_nodal hMo_order hMo_placeOf hMo_unlikeX hMo_unlikeY hMo_unlikeZ hMo_farUp hMo_farDown hMo_axisOf Mo_isThere Mo_stationX_v_16 Mo_stationY_v_16 Mo_stationZ_v_16 Mo_told Mo_weight Mo_size Mo_extra Mo_poles Mo_poleX Mo_poleY Mo_poleZ Mo_pairs Mo_lesser Mo_greater Mo_isKnown Mo_least Mo_kept Mo_misfit Mo_nodal Mo_order Mo_placeOf Mo_axisX Mo_axisY Mo_axisZ Mo_axes Mo_unlikeX Mo_unlikeY Mo_unlikeZ Mo_farUp Mo_farDown Mo_axisOf]) H → va_D A (List.flatten [wMo cy hMo hMo_isThere hMo_stationX hMo_stationY hMo_stationZ hMo_told hMo_weight hMo_poleX hMo_poleY hMo_poleZ hMo_lesser hMo_greater hMo_misfit hMo_nodal hMo_order hMo_placeOf hMo_unlikeX hMo_unlikeY hMo_unlikeZ hMo_farUp hMo_farDown hMo_axisOf Mo_isThere Mo_stationX_v_16 Mo_stationY_v_16 Mo_stationZ_v_16 Mo_told Mo_weight Mo_size Mo_extra Mo_poles Mo_poleX Mo_poleY Mo_poleZ Mo_pairs Mo_lesser Mo_greater Mo_isKnown Mo_least Mo_kept Mo_misfit Mo_nodal Mo_order Mo_placeOf Mo_axisX Mo_axisY Mo_axisZ Mo_axes Mo_unlikeX Mo_unlikeY Mo_unlikeZ Mo_farUp Mo_farDown Mo_axisOf]) → va_S A s.heap H locs → lv_has ls 4 [(0, .ref hMo), (1, .int p0), (2, .int y2_16), (3, .int y3_16)] → W p l e (headSpec (wA yX6_turn cX6_turn 4 (some .int)) { frames := 1, cells := 0, slots := 0, locals := 25 }).room s m #[.ref hMo, .int p0] below meth c H locs 0 0 (MQ below (va_Qi (fun (r : Int32) (u : (Nat → Int32) × (Nat → Int32) × (Nat → Int32) × Int32) => Q r u.1 u.2.1 u.2.2.1 u.2.2.2) (fun u t => kB D cy A (List.flatten [wMo cy hMo hMo_isThere hMo_stationX hMo_stationY hMo_stationZ hMo_told hMo_weight hMo_poleX hMo_poleY hMo_poleZ hMo_lesser hMo_greater hMo_misfit hMo_nodal hMo_order hMo_placeOf hMo_unlikeX hMo_unlikeY hMo_unlikeZ hMo_farUp hMo_farDown hMo_axisOf Mo_isThere u.1 u.2.1 u.2.2.1 Mo_told Mo_weight Mo_size Mo_extra Mo_poles Mo_poleX Mo_poleY Mo_poleZ Mo_pairs Mo_lesser Mo_greater u.2.2.2 Mo_least Mo_kept Mo_misfit Mo_nodal Mo_order Mo_placeOf Mo_axisX Mo_axisY Mo_axisZ Mo_axes Mo_unlikeX Mo_unlikeY Mo_unlikeZ Mo_farUp Mo_farDown Mo_axisOf]) t) A) #[.ref hMo, .int p0] s 0 0 A) (F0 m 16 ls []) := by
      intro K16_54 hk16_54 n
      induction n with
      | zero =>
        intro y2_16 y3_16 Mo_stationX_v_16 Mo_stationY_v_16 Mo_stationZ_v_16 H locs ls hw
        exact hw.elim
      | succ n ih16 =>
        intro y2_16 y3_16 Mo_stationX_v_16 Mo_stationY_v_16 Mo_stationZ_v_16 H locs ls hw hP hD hS hl
        unfold wp_X6_turn_L16 at hw
        refine lv_iload_n hx hb dX6_turn_16 rfl (lv_at hl 3 rfl) ?_
        refine lv_bipush (v := 24) hx hb dX6_turn_17 (by decide) ?_
        refine lv_icmp_ge (tgt := 54) hx hb dX6_turn_19 (by decide) (fun c9_16 => ?_) (fun c9_16 => ?_)
        · have hw := hw.1 c9_16
          exact hk16_54 y2_16 y3_16 Mo_stationX_v_16 Mo_stationY_v_16 Mo_stationZ_v_16 _ _ ls hw hP hD hS (lv_sub hl [0, 1, 2, 3] rfl)
        · have hw := hw.2 c9_16
          refine lv_aload_n hx hb dX6_turn_22 rfl (lv_at hl 0 rfl) ?_
          refine va_get (D := D) (ci := 6) (v := .ref hMo_isThere) (C := RX6) (T := TX6) (N := 32) hx hb hts inlX6 hown hK hP 0 rfl rfl 0 (by decide) (hts (.fieldLink RX6 7 "SquarePlanesModel" "isThere" "[Z") mw_7_8) (fun _ h9 => h9) rfl dX6_turn_23 ?_
          refine lv_iload_n hx hb dX6_turn_26 rfl (lv_at hl 3 rfl) ?_
          refine va_zald hx hb hK hP 1 1 rfl rfl hw.1 dX6_turn_27 ?_
          have hw := hw.2
          refine lv_if_eq (tgt := 48) hx hb dX6_turn_28 (by decide) (fun c8_16 => ?_) (fun c8_16 => ?_)
          · have hw := hw.1 c8_16
            refine lv_iinc (v := y3_16 + 1) (lv' := [(3, .int (y3_16 + 1)), (0, .ref hMo), (1, .int p0), (2, .int y2_16)]) hx hb dX6_turn_48 hl (k := 3) rfl rfl (by decide) rfl (fun ls hl => ?_)
            refine lv_goto (tgt := 16) hx hb dX6_turn_51 (by decide) ?_
            exact ih16 y2_16 (y3_16 + 1) Mo_stationX_v_16 Mo_stationY_v_16 Mo_stationZ_v_16 _ _ ls hw hP hD hS (lv_sub hl [1, 2, 3, 0] rfl)
          · have hw := hw.2 c8_16
            refine lv_iload_n hx hb dX6_turn_31 rfl (lv_at hl 2 rfl) ?_
            refine lv_aload_n hx hb dX6_turn_32 rfl (lv_at hl 0 rfl) ?_
            refine lv_iload_n hx hb dX6_turn_33 rfl (lv_at hl 3 rfl) ?_
            refine lv_iload_n hx hb dX6_turn_34 rfl (lv_at hl 1 rfl) ?_
            refine fd_i [0] [] hP hD hS hA rfl rfl rfl (by decide) (va_runV (As := [.int y3_16, .int p0]) (rest := [.int y2_16]) ⟨hx, hb, hml, hown, hts⟩ (k_X6_turns l D cy hMo hMo_isThere hMo_stationX hMo_stationY hMo_stationZ hMo_told hMo_weight hMo_poleX hMo_poleY hMo_poleZ hMo_lesser hMo_greater hMo_misfit hMo_nodal hMo_order hMo_placeOf hMo_unlikeX hMo_unlikeY hMo_unlikeZ hMo_farUp hMo_farDown hMo_axisOf Mo_isThere Mo_stationX_v_16 Mo_stationY_v_16 Mo_stationZ_v_16 Mo_told Mo_weight Mo_size Mo_extra Mo_poles Mo_poleX Mo_poleY Mo_poleZ Mo_pairs Mo_lesser Mo_greater Mo_isKnown Mo_least Mo_kept Mo_misfit Mo_nodal Mo_order Mo_placeOf Mo_axisX Mo_axisY Mo_axisZ Mo_axes Mo_unlikeX Mo_unlikeY Mo_unlikeZ Mo_farUp Mo_farDown Mo_axisOf y3_16 p0 _ _ hw) (cwV 2 hts (gV mw_12_21 mw_12_22 mw_12_23 mw_1_5 mw_13_0) rfl rfl rfl (by decide +kernel) ⟨Nat.le_of_ble_eq_true rfl, Nat.le_of_ble_eq_true rfl⟩) (fPreV hN hK hP hD [0] rfl rfl 0 (ci := 6) rfl rfl rfl _) rfl rfl hl.1 rfl (lv_room (Nat.le_of_ble_eq_true rfl)) dX6_turn_35 ⟨Nat.zero_le _, Nat.zero_le _⟩) (fun r4_16 u H locs hw hP hD hS => ?_)
            obtain ⟨w1_16, w2_16, w3_16⟩ := u
            try dsimp only at hw
            have hP : va_P D vwCl (List.flatten [wMo cy hMo hMo_isThere hMo_stationX hMo_stationY hMo_stationZ hMo_told hMo_weight hMo_poleX hMo_poleY hMo_poleZ hMo_lesser hMo_greater hMo_misfit hMo_nodal hMo_order hMo_placeOf hMo_unlikeX hMo_unlikeY hMo_unlikeZ hMo_farUp hMo_farDown hMo_axisOf Mo_isThere w1_16 w2_16 w3_16 Mo_told Mo_weight Mo_size Mo_extra Mo_poles Mo_poleX Mo_poleY Mo_poleZ Mo_pairs Mo_lesser Mo_greater Mo_isKnown Mo_least Mo_kept Mo_misfit Mo_nodal Mo_order Mo_placeOf Mo_axisX Mo_axisY Mo_axisZ Mo_axes Mo_unlikeX Mo_unlikeY Mo_unlikeZ Mo_farUp Mo_farDown Mo_axisOf]) H := fl_P hP [0] rfl
            have hD : va_D A (List.flatten [wMo cy hMo hMo_isThere hMo_stationX hMo_stationY hMo_stationZ hMo_told hMo_weight hMo_poleX hMo_poleY hMo_poleZ hMo_lesser hMo_greater hMo_misfit hMo_nodal hMo_order hMo_placeOf hMo_unlikeX hMo_unlikeY hMo_unlikeZ hMo_farUp hMo_farDown hMo_axisOf Mo_isThere w1_16 w2_16 w3_16 Mo_told Mo_weight Mo_size Mo_extra Mo_poles Mo_poleX Mo_poleY Mo_poleZ Mo_pairs Mo_lesser Mo_greater Mo_isKnown Mo_least Mo_kept Mo_misfit Mo_nodal Mo_order Mo_placeOf Mo_axisX Mo_axisY Mo_axisZ Mo_axes Mo_unlikeX Mo_unlikeY Mo_unlikeZ Mo_farUp Mo_farDown Mo_axisOf]) := fl_D hD [0] rfl rfl
            refine lv_if_eq (tgt := 45) hx hb dX6_turn_38 (by decide) (fun c7_16 => ?_) (fun c7_16 => ?_)
            · have hw := hw.1 c7_16
              refine lv_iconst (v := 0) hx hb dX6_turn_45 (by decide) ?_
              refine lv_iadd hx hb dX6_turn_46 ?_
              refine lv_topi (fun x5_16 ex5_16 => ?_)
              have hw := hw x5_16 ex5_16
              refine lv_istore_n (lv' := [(2, .int x5_16), (0, .ref hMo), (1, .int p0), (3, .int y3_16)]) hx hb dX6_turn_47 rfl hl (by decide) rfl (fun ls hl => ?_)
              refine lv_iinc (v := y3_16 + 1) (lv' := [(3, .int (y3_16 + 1)), (2, .int x5_16), (0, .ref hMo), (1, .int p0)]) hx hb dX6_turn_48 hl (k := 3) rfl rfl (by decide) rfl (fun ls hl => ?_)
              refine lv_goto (tgt := 16) hx hb dX6_turn_51 (by decide) ?_
              exact ih16 x5_16 (y3_16 + 1) w1_16 w2_16 w3_16 _ _ ls hw hP hD hS (lv_sub hl [2, 3, 1, 0] rfl)
            · have hw := hw.2 c7_16
              refine lv_iconst (v := 1) hx hb dX6_turn_41 (by decide) ?_
              refine lv_goto (tgt := 46) hx hb dX6_turn_42 (by decide) ?_
              refine lv_iadd hx hb dX6_turn_46 ?_
              refine lv_topi (fun x6_16 ex6_16 => ?_)
              have hw := hw x6_16 ex6_16
              refine lv_istore_n (lv' := [(2, .int x6_16), (0, .ref hMo), (1, .int p0), (3, .int y3_16)]) hx hb dX6_turn_47 rfl hl (by decide) rfl (fun ls hl => ?_)
              refine lv_iinc (v := y3_16 + 1) (lv' := [(3, .int (y3_16 + 1)), (2, .int x6_16), (0, .ref hMo), (1, .int p0)]) hx hb dX6_turn_48 hl (k := 3) rfl rfl (by decide) rfl (fun ls hl => ?_)
              refine lv_goto (tgt := 16) hx hb dX6_turn_51 (by decide) ?_
              exact ih16 x6_16 (y3_16 + 1) w1_16 w2_16 w3_16 _ _ ls hw hP hD hS (lv_sub hl [2, 3, 1, 0] rfl)
    refine kl16 _ ?_ n16 0 0 Mo_stationX Mo_stationY Mo_stationZ _ _ ls hw hP hD hS (lv_sub hl [2, 3, 1, 0] rfl)
    · intro y2_16 y3_16 Mo_stationX_v_16 Mo_stationY_v_16 Mo_stationZ_v_16 H locs ls hw hP hD hS hl
      refine lv_aload_n hx hb dX6_turn_54 rfl (lv_at hl 0 rfl) ?_
      refine lv_iconst (v := 0) hx hb dX6_turn_55 (by decide) ?_
      refine va_put (D := D) (ci := 6) (v := .int 0) (ty := tyX6 15) (C := RX6) (T := TX6) (N := 32) hx hb hts inlX6 tyX6 tyX6_ok nmX6 hown hK hP hD hS 0 rfl rfl 15 (by decide) (hts (.fieldLink RX6 93 "SquarePlanesModel" "isKnown" "Z") mw_8_13) (fun _ h9 => h9) rfl (tyX6_ok 15 (by decide)) rfl rfl (Nat.le_of_ble_eq_true rfl) dX6_turn_56 (fun H locs hP hD hS => ?_)
      have hP : va_P D vwCl (List.flatten [wMo cy hMo hMo_isThere hMo_stationX hMo_stationY hMo_stationZ hMo_told hMo_weight hMo_poleX hMo_poleY hMo_poleZ hMo_lesser hMo_greater hMo_misfit hMo_nodal hMo_order hMo_placeOf hMo_unlikeX hMo_unlikeY hMo_unlikeZ hMo_farUp hMo_farDown hMo_axisOf Mo_isThere Mo_stationX_v_16 Mo_stationY_v_16 Mo_stationZ_v_16 Mo_told Mo_weight Mo_size Mo_extra Mo_poles Mo_poleX Mo_poleY Mo_poleZ Mo_pairs Mo_lesser Mo_greater 0 Mo_least Mo_kept Mo_misfit Mo_nodal Mo_order Mo_placeOf Mo_axisX Mo_axisY Mo_axisZ Mo_axes Mo_unlikeX Mo_unlikeY Mo_unlikeZ Mo_farUp Mo_farDown Mo_axisOf]) H := hP
      have hD : va_D A (List.flatten [wMo cy hMo hMo_isThere hMo_stationX hMo_stationY hMo_stationZ hMo_told hMo_weight hMo_poleX hMo_poleY hMo_poleZ hMo_lesser hMo_greater hMo_misfit hMo_nodal hMo_order hMo_placeOf hMo_unlikeX hMo_unlikeY hMo_unlikeZ hMo_farUp hMo_farDown hMo_axisOf Mo_isThere Mo_stationX_v_16 Mo_stationY_v_16 Mo_stationZ_v_16 Mo_told Mo_weight Mo_size Mo_extra Mo_poles Mo_poleX Mo_poleY Mo_poleZ Mo_pairs Mo_lesser Mo_greater 0 Mo_least Mo_kept Mo_misfit Mo_nodal Mo_order Mo_placeOf Mo_axisX Mo_axisY Mo_axisZ Mo_axes Mo_unlikeX Mo_unlikeY Mo_unlikeZ Mo_farUp Mo_farDown Mo_axisOf]) := hD
      refine lv_iload_n hx hb dX6_turn_59 rfl (lv_at hl 2 rfl) ?_
      exact W.iret (v := y2_16) hx hb hr (fun t ht hW => ⟨⟨y2_16, (Mo_stationX_v_16, Mo_stationY_v_16, Mo_stationZ_v_16, 0), rfl, hw, ⟨by rw [ht]; exact hP, va_K.moved hW.alike hK, hD⟩⟩, hS.F ht⟩) hS.2.2 dX6_turn_60
  · have hw := hw.1 c2
    refine lv_bipush (v := (-2)) hx hb dX6_turn_9 (by decide) ?_
    exact W.iret (v := (-2)) hx hb hr (fun t ht hW => ⟨⟨(-2), (Mo_stationX, Mo_stationY, Mo_stationZ, Mo_isKnown), rfl, hw, ⟨by rw [ht]; exact hP, va_K.moved hW.alike hK, hD⟩⟩, hS.F ht⟩) hS.2.2 dX6_turn_11
set_option maxHeartbeats 4000000 in
set_option maxRecDepth 100000 in
theorem k_X6_extra (l : Launch) (D : va_G) (cy : Nat → ClassId) (hMo hMo_isThere hMo_stationX hMo_stationY hMo_stationZ hMo_told hMo_weight hMo_poleX hMo_poleY hMo_poleZ hMo_lesser hMo_greater hMo_misfit hMo_nodal hMo_order hMo_placeOf hMo_unlikeX hMo_unlikeY hMo_unlikeZ hMo_farUp hMo_farDown hMo_axisOf : Nat) (Mo_isThere : Nat → Int32) (Mo_stationX : Nat → Int32) (Mo_stationY : Nat → Int32) (Mo_stationZ : Nat → Int32) (Mo_told : Nat → Int32) (Mo_weight : Nat → Int32) (Mo_size : Int32) (Mo_extra : Int32) (Mo_poles : Int32) (Mo_poleX : Nat → Int32) (Mo_poleY : Nat → Int32) (Mo_poleZ : Nat → Int32) (Mo_pairs : Int32) (Mo_lesser : Nat → Int32) (Mo_greater : Nat → Int32) (Mo_isKnown : Int32) (Mo_least : Int32) (Mo_kept : Int32) (Mo_misfit : Nat → Int32) (Mo_nodal : Nat → Int32) (Mo_order : Nat → Int32) (Mo_placeOf : Nat → Int32) (Mo_axisX : Int32) (Mo_axisY : Int32) (Mo_axisZ : Int32) (Mo_axes : Int32) (Mo_unlikeX : Nat → Int32) (Mo_unlikeY : Nat → Int32) (Mo_unlikeZ : Nat → Int32) (Mo_farUp : Nat → Int64) (Mo_farDown : Nat → Int64) (Mo_axisOf : Nat → Int32) (p0 : Int32) (sz : Nat) (Q : Int32 → Int32 → Int32 → Prop) (hw : wp_X6_extra p0 Mo_extra Mo_isKnown Q) : Met l yX6_extra (wA yX6_extra cX6_extra 3 (some .int)) { frames := 1, cells := 0, slots := 0, locals := 22 } (kPc [.ref hMo, .int p0] D cy (List.flatten [wMo cy hMo hMo_isThere hMo_stationX hMo_stationY hMo_stationZ hMo_told hMo_weight hMo_poleX hMo_poleY hMo_poleZ hMo_lesser hMo_greater hMo_misfit hMo_nodal hMo_order hMo_placeOf hMo_unlikeX hMo_unlikeY hMo_unlikeZ hMo_farUp hMo_farDown hMo_axisOf Mo_isThere Mo_stationX Mo_stationY Mo_stationZ Mo_told Mo_weight Mo_size Mo_extra Mo_poles Mo_poleX Mo_poleY Mo_poleZ Mo_pairs Mo_lesser Mo_greater Mo_isKnown Mo_least Mo_kept Mo_misfit Mo_nodal Mo_order Mo_placeOf Mo_axisX Mo_axisY Mo_axisZ Mo_axes Mo_unlikeX Mo_unlikeY Mo_unlikeZ Mo_farUp Mo_farDown Mo_axisOf]) sz) (va_Qi (fun (r : Int32) (u : Int32 × Int32) => Q r u.1 u.2) (fun u t => kB D cy (va_A (List.flatten [wMo cy hMo hMo_isThere hMo_stationX hMo_stationY hMo_stationZ hMo_told hMo_weight hMo_poleX hMo_poleY hMo_poleZ hMo_lesser hMo_greater hMo_misfit hMo_nodal hMo_order hMo_placeOf hMo_unlikeX hMo_unlikeY hMo_unlikeZ hMo_farUp hMo_farDown hMo_axisOf Mo_isThere Mo_stationX Mo_stationY Mo_stationZ Mo_told Mo_weight Mo_size Mo_extra Mo_poles Mo_poleX Mo_poleY Mo_poleZ Mo_pairs Mo_lesser Mo_greater Mo_isKnown Mo_least Mo_kept Mo_misfit Mo_nodal Mo_order Mo_placeOf Mo_axisX Mo_axisY Mo_axisZ Mo_axes Mo_unlikeX Mo_unlikeY Mo_unlikeZ Mo_farUp Mo_farDown Mo_axisOf]) sz) (List.flatten [wMo cy hMo hMo_isThere hMo_stationX hMo_stationY hMo_stationZ hMo_told hMo_weight hMo_poleX hMo_poleY hMo_poleZ hMo_lesser hMo_greater hMo_misfit hMo_nodal hMo_order hMo_placeOf hMo_unlikeX hMo_unlikeY hMo_unlikeZ hMo_farUp hMo_farDown hMo_axisOf Mo_isThere Mo_stationX Mo_stationY Mo_stationZ Mo_told Mo_weight Mo_size u.1 Mo_poles Mo_poleX Mo_poleY Mo_poleZ Mo_pairs Mo_lesser Mo_greater u.2 Mo_least Mo_kept Mo_misfit Mo_nodal Mo_order Mo_placeOf Mo_axisX Mo_axisY Mo_axisZ Mo_axes Mo_unlikeX Mo_unlikeY Mo_unlikeZ Mo_farUp Mo_farDown Mo_axisOf]) t) (va_A (List.flatten [wMo cy hMo hMo_isThere hMo_stationX hMo_stationY hMo_stationZ hMo_told hMo_weight hMo_poleX hMo_poleY hMo_poleZ hMo_lesser hMo_greater hMo_misfit hMo_nodal hMo_order hMo_placeOf hMo_unlikeX hMo_unlikeY hMo_unlikeZ hMo_farUp hMo_farDown hMo_axisOf Mo_isThere Mo_stationX Mo_stationY Mo_stationZ Mo_told Mo_weight Mo_size Mo_extra Mo_poles Mo_poleX Mo_poleY Mo_poleZ Mo_pairs Mo_lesser Mo_greater Mo_isKnown Mo_least Mo_kept Mo_misfit Mo_nodal Mo_order Mo_placeOf Mo_axisX Mo_axisY Mo_axisZ Mo_axes Mo_unlikeX Mo_unlikeY Mo_unlikeZ Mo_farUp Mo_farDown Mo_axisOf]) sz)) 0 0 (va_A (List.flatten [wMo cy hMo hMo_isThere hMo_stationX hMo_stationY hMo_stationZ hMo_told hMo_weight hMo_poleX hMo_poleY hMo_poleZ hMo_lesser hMo_greater hMo_misfit hMo_nodal hMo_order hMo_placeOf hMo_unlikeX hMo_unlikeY hMo_unlikeZ hMo_farUp hMo_farDown hMo_axisOf Mo_isThere Mo_stationX Mo_stationY Mo_stationZ Mo_told Mo_weight Mo_size Mo_extra Mo_poles Mo_poleX Mo_poleY Mo_poleZ Mo_pairs Mo_lesser Mo_greater Mo_isKnown Mo_least Mo_kept Mo_misfit Mo_nodal Mo_order Mo_placeOf Mo_axisX Mo_axisY Mo_axisZ Mo_axes Mo_unlikeX Mo_unlikeY Mo_unlikeZ Mo_farUp Mo_farDown Mo_axisOf]) sz) := by
  refine Met.ofW (cc := cX6_extra) (maxL := 3) (ret := (some .int)) (by decide) rfl ?_
  intro p e s m args below meth c s₁ B hml hv
  obtain ⟨rfl, hsz, hN, hP, hK, hD0⟩ := hv
  have hx := B.exec
  have hb := B.bytes
  have hr := B.returns
  have hts0 := atoms_spec (ws := wA yX6_extra cX6_extra 3 (some .int)) B.pre
  have hts := fun w (h : w ∈ wsL_law) => hts0 w (List.mem_cons_of_mem _ h)
  have hown : s.vm.findClass RX6 = some m.cls := findClass_of_methodNamed B.named
  have hlocks := B.notSynchronized
  subst hsz
  have hD := hD0.self (sz := s.heap.size)
  generalize hAe : va_A (List.flatten [wMo cy hMo hMo_isThere hMo_stationX hMo_stationY hMo_stationZ hMo_told hMo_weight hMo_poleX hMo_poleY hMo_poleZ hMo_lesser hMo_greater hMo_misfit hMo_nodal hMo_order hMo_placeOf hMo_unlikeX hMo_unlikeY hMo_unlikeZ hMo_farUp hMo_farDown hMo_axisOf Mo_isThere Mo_stationX Mo_stationY Mo_stationZ Mo_told Mo_weight Mo_size Mo_extra Mo_poles Mo_poleX Mo_poleY Mo_poleZ Mo_pairs Mo_lesser Mo_greater Mo_isKnown Mo_least Mo_kept Mo_misfit Mo_nodal Mo_order Mo_placeOf Mo_axisX Mo_axisY Mo_axisZ Mo_axes Mo_unlikeX Mo_unlikeY Mo_unlikeZ Mo_farUp Mo_farDown Mo_axisOf]) s.heap.size = A at hD ⊢
  have hA : ∀ q : Nat, s.heap.size ≤ q → A q := fun q h => by rw [← hAe]; exact Or.inr h
  have hS : va_S A s.heap s.heap [] := va_S.rf
  have hP : va_P D vwCl (List.flatten [wMo cy hMo hMo_isThere hMo_stationX hMo_stationY hMo_stationZ hMo_told hMo_weight hMo_poleX hMo_poleY hMo_poleZ hMo_lesser hMo_greater hMo_misfit hMo_nodal hMo_order hMo_placeOf hMo_unlikeX hMo_unlikeY hMo_unlikeZ hMo_farUp hMo_farDown hMo_axisOf Mo_isThere Mo_stationX Mo_stationY Mo_stationZ Mo_told Mo_weight Mo_size Mo_extra Mo_poles Mo_poleX Mo_poleY Mo_poleZ Mo_pairs Mo_lesser Mo_greater Mo_isKnown Mo_least Mo_kept Mo_misfit Mo_nodal Mo_order Mo_placeOf Mo_axisX Mo_axisY Mo_axisZ Mo_axes Mo_unlikeX Mo_unlikeY Mo_unlikeZ Mo_farUp Mo_farDown Mo_axisOf]) s.heap := hP
  have hl := lv_entry ([.ref hMo, .int p0]) (n := 3) (Nat.le_of_ble_eq_true rfl)
  rw [lg_entry_eq]
  generalize (lg_sl ([.ref hMo, .int p0]) ++ List.replicate (3 - (lg_sl ([.ref hMo, .int p0])).length) Slot.unset).toArray = ls at hl ⊢
  have hl : lv_has ls 3 [(0, .ref hMo), (1, .int p0)] := hl
  unfold wp_X6_extra at hw
  refine lv_iload_n hx hb dX6_extra_0 rfl (lv_at hl 1 rfl) ?_
  refine lv_iconst (v := 0) hx hb dX6_extra_1 (by decide) ?_
  refine lv_bipush (v := 9) hx hb dX6_extra_2 (by decide) ?_
  refine kc_i (va_runS (As := [.int p0, .int (0), .int (9)]) (rest := []) ⟨hx, hb, hml, hown, hts⟩ (k_X6_within l D cy p0 (0 : Int32) (9 : Int32) _ _ hw) (va_cwS 3 hts (gS mw_10_5 mw_10_6 mw_1_5 mw_10_7) rfl rfl rfl (by decide +kernel) ⟨Nat.le_of_ble_eq_true rfl, Nat.le_of_ble_eq_true rfl⟩) (fPre hN hK hP hD [] rfl rfl _) rfl rfl hl.1 rfl (lv_room (Nat.le_of_ble_eq_true rfl)) dX6_extra_4 ⟨Nat.zero_le _, Nat.zero_le _⟩) (fun r1 hw => ?_)
  refine lv_if_ne (tgt := 13) hx hb dX6_extra_7 (by decide) (fun c2 => ?_) (fun c2 => ?_)
  · have hw := hw.2 c2
    refine lv_aload_n hx hb dX6_extra_13 rfl (lv_at hl 0 rfl) ?_
    refine va_get (D := D) (ci := 6) (v := .int Mo_extra) (C := RX6) (T := TX6) (N := 32) hx hb hts inlX6 hown hK hP 0 rfl rfl 7 (by decide) (hts (.fieldLink RX6 144 "SquarePlanesModel" "extra" "I") mw_17_0) (fun _ h9 => h9) rfl dX6_extra_14 ?_
    refine lv_istore_n (lv' := [(2, .int Mo_extra), (0, .ref hMo), (1, .int p0)]) hx hb dX6_extra_17 rfl hl (by decide) rfl (fun ls hl => ?_)
    refine lv_aload_n hx hb dX6_extra_18 rfl (lv_at hl 1 rfl) ?_
    refine lv_iload_n hx hb dX6_extra_19 rfl (lv_at hl 2 rfl) ?_
    refine va_put (D := D) (ci := 6) (v := .int p0) (ty := tyX6 7) (C := RX6) (T := TX6) (N := 32) hx hb hts inlX6 tyX6 tyX6_ok nmX6 hown hK hP hD hS 0 rfl rfl 7 (by decide) (hts (.fieldLink RX6 144 "SquarePlanesModel" "extra" "I") mw_17_0) (fun _ h9 => h9) rfl (tyX6_ok 7 (by decide)) rfl rfl (Nat.le_of_ble_eq_true rfl) dX6_extra_20 (fun H locs hP hD hS => ?_)
    have hP : va_P D vwCl (List.flatten [wMo cy hMo hMo_isThere hMo_stationX hMo_stationY hMo_stationZ hMo_told hMo_weight hMo_poleX hMo_poleY hMo_poleZ hMo_lesser hMo_greater hMo_misfit hMo_nodal hMo_order hMo_placeOf hMo_unlikeX hMo_unlikeY hMo_unlikeZ hMo_farUp hMo_farDown hMo_axisOf Mo_isThere Mo_stationX Mo_stationY Mo_stationZ Mo_told Mo_weight Mo_size p0 Mo_poles Mo_poleX Mo_poleY Mo_poleZ Mo_pairs Mo_lesser Mo_greater Mo_isKnown Mo_least Mo_kept Mo_misfit Mo_nodal Mo_order Mo_placeOf Mo_axisX Mo_axisY Mo_axisZ Mo_axes Mo_unlikeX Mo_unlikeY Mo_unlikeZ Mo_farUp Mo_farDown Mo_axisOf]) H := hP
    have hD : va_D A (List.flatten [wMo cy hMo hMo_isThere hMo_stationX hMo_stationY hMo_stationZ hMo_told hMo_weight hMo_poleX hMo_poleY hMo_poleZ hMo_lesser hMo_greater hMo_misfit hMo_nodal hMo_order hMo_placeOf hMo_unlikeX hMo_unlikeY hMo_unlikeZ hMo_farUp hMo_farDown hMo_axisOf Mo_isThere Mo_stationX Mo_stationY Mo_stationZ Mo_told Mo_weight Mo_size p0 Mo_poles Mo_poleX Mo_poleY Mo_poleZ Mo_pairs Mo_lesser Mo_greater Mo_isKnown Mo_least Mo_kept Mo_misfit Mo_nodal Mo_order Mo_placeOf Mo_axisX Mo_axisY Mo_axisZ Mo_axes Mo_unlikeX Mo_unlikeY Mo_unlikeZ Mo_farUp Mo_farDown Mo_axisOf]) := hD
    refine lv_aload_n hx hb dX6_extra_23 rfl (lv_at hl 1 rfl) ?_
    refine lv_iconst (v := 0) hx hb dX6_extra_24 (by decide) ?_
    refine va_put (D := D) (ci := 6) (v := .int 0) (ty := tyX6 15) (C := RX6) (T := TX6) (N := 32) hx hb hts inlX6 tyX6 tyX6_ok nmX6 hown hK hP hD hS 0 rfl rfl 15 (by decide) (hts (.fieldLink RX6 93 "SquarePlanesModel" "isKnown" "Z") mw_8_13) (fun _ h9 => h9) rfl (tyX6_ok 15 (by decide)) rfl rfl (Nat.le_of_ble_eq_true rfl) dX6_extra_25 (fun H locs hP hD hS => ?_)
    have hP : va_P D vwCl (List.flatten [wMo cy hMo hMo_isThere hMo_stationX hMo_stationY hMo_stationZ hMo_told hMo_weight hMo_poleX hMo_poleY hMo_poleZ hMo_lesser hMo_greater hMo_misfit hMo_nodal hMo_order hMo_placeOf hMo_unlikeX hMo_unlikeY hMo_unlikeZ hMo_farUp hMo_farDown hMo_axisOf Mo_isThere Mo_stationX Mo_stationY Mo_stationZ Mo_told Mo_weight Mo_size p0 Mo_poles Mo_poleX Mo_poleY Mo_poleZ Mo_pairs Mo_lesser Mo_greater 0 Mo_least Mo_kept Mo_misfit Mo_nodal Mo_order Mo_placeOf Mo_axisX Mo_axisY Mo_axisZ Mo_axes Mo_unlikeX Mo_unlikeY Mo_unlikeZ Mo_farUp Mo_farDown Mo_axisOf]) H := hP
    have hD : va_D A (List.flatten [wMo cy hMo hMo_isThere hMo_stationX hMo_stationY hMo_stationZ hMo_told hMo_weight hMo_poleX hMo_poleY hMo_poleZ hMo_lesser hMo_greater hMo_misfit hMo_nodal hMo_order hMo_placeOf hMo_unlikeX hMo_unlikeY hMo_unlikeZ hMo_farUp hMo_farDown hMo_axisOf Mo_isThere Mo_stationX Mo_stationY Mo_stationZ Mo_told Mo_weight Mo_size p0 Mo_poles Mo_poleX Mo_poleY Mo_poleZ Mo_pairs Mo_lesser Mo_greater 0 Mo_least Mo_kept Mo_misfit Mo_nodal Mo_order Mo_placeOf Mo_axisX Mo_axisY Mo_axisZ Mo_axes Mo_unlikeX Mo_unlikeY Mo_unlikeZ Mo_farUp Mo_farDown Mo_axisOf]) := hD
    refine lv_iload_n hx hb dX6_extra_28 rfl (lv_at hl 0 rfl) ?_
    exact W.iret (v := Mo_extra) hx hb hr (fun t ht hW => ⟨⟨Mo_extra, (p0, 0), rfl, hw, ⟨by rw [ht]; exact hP, va_K.moved hW.alike hK, hD⟩⟩, hS.F ht⟩) hS.2.2 dX6_extra_29
  · have hw := hw.1 c2
    refine lv_bipush (v := (-2)) hx hb dX6_extra_10 (by decide) ?_
    exact W.iret (v := (-2)) hx hb hr (fun t ht hW => ⟨⟨(-2), (Mo_extra, Mo_isKnown), rfl, hw, ⟨by rw [ht]; exact hP, va_K.moved hW.alike hK, hD⟩⟩, hS.F ht⟩) hS.2.2 dX6_extra_12
set_option maxHeartbeats 4000000 in
set_option maxRecDepth 100000 in
theorem k_X6_isPole (l : Launch) (D : va_G) (cy : Nat → ClassId) (hMo hMo_isThere hMo_stationX hMo_stationY hMo_stationZ hMo_told hMo_weight hMo_poleX hMo_poleY hMo_poleZ hMo_lesser hMo_greater hMo_misfit hMo_nodal hMo_order hMo_placeOf hMo_unlikeX hMo_unlikeY hMo_unlikeZ hMo_farUp hMo_farDown hMo_axisOf : Nat) (Mo_isThere : Nat → Int32) (Mo_stationX : Nat → Int32) (Mo_stationY : Nat → Int32) (Mo_stationZ : Nat → Int32) (Mo_told : Nat → Int32) (Mo_weight : Nat → Int32) (Mo_size : Int32) (Mo_extra : Int32) (Mo_poles : Int32) (Mo_poleX : Nat → Int32) (Mo_poleY : Nat → Int32) (Mo_poleZ : Nat → Int32) (Mo_pairs : Int32) (Mo_lesser : Nat → Int32) (Mo_greater : Nat → Int32) (Mo_isKnown : Int32) (Mo_least : Int32) (Mo_kept : Int32) (Mo_misfit : Nat → Int32) (Mo_nodal : Nat → Int32) (Mo_order : Nat → Int32) (Mo_placeOf : Nat → Int32) (Mo_axisX : Int32) (Mo_axisY : Int32) (Mo_axisZ : Int32) (Mo_axes : Int32) (Mo_unlikeX : Nat → Int32) (Mo_unlikeY : Nat → Int32) (Mo_unlikeZ : Nat → Int32) (Mo_farUp : Nat → Int64) (Mo_farDown : Nat → Int64) (Mo_axisOf : Nat → Int32) (p0 : Int32) (sz : Nat) (Q : Int32 → Prop) (hw : wp_X6_isPole p0 Mo_poles Q) : Met l yX6_isPole (wA yX6_isPole cX6_isPole 2 (some .boolean)) { frames := 1, cells := 0, slots := 0, locals := 22 } (kPc [.ref hMo, .int p0] D cy (List.flatten [wMo cy hMo hMo_isThere hMo_stationX hMo_stationY hMo_stationZ hMo_told hMo_weight hMo_poleX hMo_poleY hMo_poleZ hMo_lesser hMo_greater hMo_misfit hMo_nodal hMo_order hMo_placeOf hMo_unlikeX hMo_unlikeY hMo_unlikeZ hMo_farUp hMo_farDown hMo_axisOf Mo_isThere Mo_stationX Mo_stationY Mo_stationZ Mo_told Mo_weight Mo_size Mo_extra Mo_poles Mo_poleX Mo_poleY Mo_poleZ Mo_pairs Mo_lesser Mo_greater Mo_isKnown Mo_least Mo_kept Mo_misfit Mo_nodal Mo_order Mo_placeOf Mo_axisX Mo_axisY Mo_axisZ Mo_axes Mo_unlikeX Mo_unlikeY Mo_unlikeZ Mo_farUp Mo_farDown Mo_axisOf]) sz) (kSi Q) 0 0 (fun _ => False) := by
  refine Met.ofW (cc := cX6_isPole) (maxL := 2) (ret := (some .boolean)) (by decide) rfl ?_
  intro p e s m args below meth c s₁ B hml hv
  obtain ⟨rfl, hsz, hN, hP, hK, hD0⟩ := hv
  have hx := B.exec
  have hb := B.bytes
  have hr := B.returns
  have hts0 := atoms_spec (ws := wA yX6_isPole cX6_isPole 2 (some .boolean)) B.pre
  have hts := fun w (h : w ∈ wsL_law) => hts0 w (List.mem_cons_of_mem _ h)
  have hown : s.vm.findClass RX6 = some m.cls := findClass_of_methodNamed B.named
  have hlocks := B.notSynchronized
  subst hsz
  have hD := hD0
  have hl := lv_entry ([.ref hMo, .int p0]) (n := 2) (Nat.le_of_ble_eq_true rfl)
  rw [lg_entry_eq]
  generalize (lg_sl ([.ref hMo, .int p0]) ++ List.replicate (2 - (lg_sl ([.ref hMo, .int p0])).length) Slot.unset).toArray = ls at hl ⊢
  have hl : lv_has ls 2 [(0, .ref hMo), (1, .int p0)] := hl
  unfold wp_X6_isPole at hw
  refine lv_iload_n hx hb dX6_isPole_0 rfl (lv_at hl 1 rfl) ?_
  refine lv_iconst (v := 0) hx hb dX6_isPole_1 (by decide) ?_
  refine lv_aload_n hx hb dX6_isPole_2 rfl (lv_at hl 0 rfl) ?_
  refine va_get (D := D) (ci := 6) (v := .int Mo_poles) (C := RX6) (T := TX6) (N := 32) hx hb hts inlX6 hown hK hP 0 rfl rfl 8 (by decide) (hts (.fieldLink RX6 123 "SquarePlanesModel" "poles" "I") mw_8_11) (fun _ h9 => h9) rfl dX6_isPole_3 ?_
  refine lv_iconst (v := 1) hx hb dX6_isPole_6 (by decide) ?_
  refine lv_isub hx hb dX6_isPole_7 ?_
  refine kc_i (va_runS (As := [.int p0, .int (0), .int (Mo_poles - 1)]) (rest := []) ⟨hx, hb, hml, hown, hts⟩ (k_X6_within l D cy p0 (0 : Int32) (Mo_poles - 1) _ _ hw) (va_cwS 3 hts (gS mw_10_5 mw_10_6 mw_1_5 mw_10_7) rfl rfl rfl (by decide +kernel) ⟨Nat.le_of_ble_eq_true rfl, Nat.le_of_ble_eq_true rfl⟩) (fPre hN hK hP hD [] rfl rfl _) rfl rfl hl.1 rfl (lv_room (Nat.le_of_ble_eq_true rfl)) dX6_isPole_8 ⟨Nat.zero_le _, Nat.zero_le _⟩) (fun r1 hw => ?_)
  exact W.zret (v := r1) hx hb hr hw.1 (fun t ht hW => ⟨r1, rfl, hw.2, ht⟩) (fun q h => by cases h) dX6_isPole_11
set_option maxHeartbeats 4000000 in
set_option maxRecDepth 100000 in
theorem k_X6_pair (l : Launch) (D : va_G) (cy : Nat → ClassId) (hMo hMo_isThere hMo_stationX hMo_stationY hMo_stationZ hMo_told hMo_weight hMo_poleX hMo_poleY hMo_poleZ hMo_lesser hMo_greater hMo_misfit hMo_nodal hMo_order hMo_placeOf hMo_unlikeX hMo_unlikeY hMo_unlikeZ hMo_farUp hMo_farDown hMo_axisOf : Nat) (Mo_isThere : Nat → Int32) (Mo_stationX : Nat → Int32) (Mo_stationY : Nat → Int32) (Mo_stationZ : Nat → Int32) (Mo_told : Nat → Int32) (Mo_weight : Nat → Int32) (Mo_size : Int32) (Mo_extra : Int32) (Mo_poles : Int32) (Mo_poleX : Nat → Int32) (Mo_poleY : Nat → Int32) (Mo_poleZ : Nat → Int32) (Mo_pairs : Int32) (Mo_lesser : Nat → Int32) (Mo_greater : Nat → Int32) (Mo_isKnown : Int32) (Mo_least : Int32) (Mo_kept : Int32) (Mo_misfit : Nat → Int32) (Mo_nodal : Nat → Int32) (Mo_order : Nat → Int32) (Mo_placeOf : Nat → Int32) (Mo_axisX : Int32) (Mo_axisY : Int32) (Mo_axisZ : Int32) (Mo_axes : Int32) (Mo_unlikeX : Nat → Int32) (Mo_unlikeY : Nat → Int32) (Mo_unlikeZ : Nat → Int32) (Mo_farUp : Nat → Int64) (Mo_farDown : Nat → Int64) (Mo_axisOf : Nat → Int32) (p0 : Int32) (p1 : Int32) (sz : Nat) (Q : Int32 → Prop) (hw : wp_X6_pair p0 p1 Mo_pairs Mo_lesser Mo_greater Q) : Met l yX6_pair (wA yX6_pair cX6_pair 3 (some .int)) { frames := 1, cells := 0, slots := 0, locals := 22 } (kPc [.ref hMo, .int p0, .int p1] D cy (List.flatten [wMo cy hMo hMo_isThere hMo_stationX hMo_stationY hMo_stationZ hMo_told hMo_weight hMo_poleX hMo_poleY hMo_poleZ hMo_lesser hMo_greater hMo_misfit hMo_nodal hMo_order hMo_placeOf hMo_unlikeX hMo_unlikeY hMo_unlikeZ hMo_farUp hMo_farDown hMo_axisOf Mo_isThere Mo_stationX Mo_stationY Mo_stationZ Mo_told Mo_weight Mo_size Mo_extra Mo_poles Mo_poleX Mo_poleY Mo_poleZ Mo_pairs Mo_lesser Mo_greater Mo_isKnown Mo_least Mo_kept Mo_misfit Mo_nodal Mo_order Mo_placeOf Mo_axisX Mo_axisY Mo_axisZ Mo_axes Mo_unlikeX Mo_unlikeY Mo_unlikeZ Mo_farUp Mo_farDown Mo_axisOf]) sz) (kSi Q) 0 0 (fun _ => False) := by
  refine Met.ofW (cc := cX6_pair) (maxL := 3) (ret := (some .int)) (by decide) rfl ?_
  intro p e s m args below meth c s₁ B hml hv
  obtain ⟨rfl, hsz, hN, hP, hK, hD0⟩ := hv
  have hx := B.exec
  have hb := B.bytes
  have hr := B.returns
  have hts0 := atoms_spec (ws := wA yX6_pair cX6_pair 3 (some .int)) B.pre
  have hts := fun w (h : w ∈ wsL_law) => hts0 w (List.mem_cons_of_mem _ h)
  have hown : s.vm.findClass RX6 = some m.cls := findClass_of_methodNamed B.named
  have hlocks := B.notSynchronized
  subst hsz
  have hD := hD0
  have hl := lv_entry ([.ref hMo, .int p0, .int p1]) (n := 3) (Nat.le_of_ble_eq_true rfl)
  rw [lg_entry_eq]
  generalize (lg_sl ([.ref hMo, .int p0, .int p1]) ++ List.replicate (3 - (lg_sl ([.ref hMo, .int p0, .int p1])).length) Slot.unset).toArray = ls at hl ⊢
  have hl : lv_has ls 3 [(0, .ref hMo), (1, .int p0), (2, .int p1)] := hl
  unfold wp_X6_pair at hw
  refine lv_iload_n hx hb dX6_pair_0 rfl (lv_at hl 1 rfl) ?_
  refine lv_iconst (v := 0) hx hb dX6_pair_1 (by decide) ?_
  refine lv_aload_n hx hb dX6_pair_2 rfl (lv_at hl 0 rfl) ?_
  refine va_get (D := D) (ci := 6) (v := .int Mo_pairs) (C := RX6) (T := TX6) (N := 32) hx hb hts inlX6 hown hK hP 0 rfl rfl 12 (by decide) (hts (.fieldLink RX6 130 "SquarePlanesModel" "pairs" "I") mw_8_12) (fun _ h9 => h9) rfl dX6_pair_3 ?_
  refine lv_iconst (v := 1) hx hb dX6_pair_6 (by decide) ?_
  refine lv_isub hx hb dX6_pair_7 ?_
  refine kc_i (va_runS (As := [.int p0, .int (0), .int (Mo_pairs - 1)]) (rest := []) ⟨hx, hb, hml, hown, hts⟩ (k_X6_within l D cy p0 (0 : Int32) (Mo_pairs - 1) _ _ hw) (va_cwS 3 hts (gS mw_10_5 mw_10_6 mw_1_5 mw_10_7) rfl rfl rfl (by decide +kernel) ⟨Nat.le_of_ble_eq_true rfl, Nat.le_of_ble_eq_true rfl⟩) (fPre hN hK hP hD [] rfl rfl _) rfl rfl hl.1 rfl (lv_room (Nat.le_of_ble_eq_true rfl)) dX6_pair_8 ⟨Nat.zero_le _, Nat.zero_le _⟩) (fun r1 hw => ?_)
  refine lv_if_ne (tgt := 16) hx hb dX6_pair_11 (by decide) (fun c4 => ?_) (fun c4 => ?_)
  · have hw := hw.2 c4
    refine lv_iload_n hx hb dX6_pair_16 rfl (lv_at hl 2 rfl) ?_
    refine lv_if_ne (tgt := 29) hx hb dX6_pair_17 (by decide) (fun c3 => ?_) (fun c3 => ?_)
    · have hw := hw.2 c3
      refine lv_iload_n hx hb dX6_pair_29 rfl (lv_at hl 2 rfl) ?_
      refine lv_iconst (v := 1) hx hb dX6_pair_30 (by decide) ?_
      refine lv_icmp_ne (tgt := 43) hx hb dX6_pair_31 (by decide) (fun c2 => ?_) (fun c2 => ?_)
      · have hw := hw.2 c2
        refine lv_bipush (v := (-2)) hx hb dX6_pair_43 (by decide) ?_
        exact W.iret (v := (-2)) hx hb hr (fun t ht hW => ⟨(-2), rfl, hw, ht⟩) (fun q h => by cases h) dX6_pair_45
      · have hw := hw.1 c2
        refine lv_aload_n hx hb dX6_pair_34 rfl (lv_at hl 0 rfl) ?_
        refine va_get (D := D) (ci := 6) (v := .ref hMo_greater) (C := RX6) (T := TX6) (N := 32) hx hb hts inlX6 hown hK hP 0 rfl rfl 14 (by decide) (hts (.fieldLink RX6 45 "SquarePlanesModel" "greater" "[I") mw_7_19) (fun _ h9 => h9) rfl dX6_pair_35 ?_
        refine lv_iload_n hx hb dX6_pair_38 rfl (lv_at hl 1 rfl) ?_
        refine va_iald hx hb hK hP 11 0 rfl rfl hw.1 dX6_pair_39 ?_
        have hw := hw.2
        refine lv_goto (tgt := 45) hx hb dX6_pair_40 (by decide) ?_
        exact W.iret (v := Mo_greater p0.toNatClampNeg) hx hb hr (fun t ht hW => ⟨Mo_greater p0.toNatClampNeg, rfl, hw, ht⟩) (fun q h => by cases h) dX6_pair_45
    · have hw := hw.1 c3
      refine lv_aload_n hx hb dX6_pair_20 rfl (lv_at hl 0 rfl) ?_
      refine va_get (D := D) (ci := 6) (v := .ref hMo_lesser) (C := RX6) (T := TX6) (N := 32) hx hb hts inlX6 hown hK hP 0 rfl rfl 13 (by decide) (hts (.fieldLink RX6 42 "SquarePlanesModel" "lesser" "[I") mw_7_18) (fun _ h9 => h9) rfl dX6_pair_21 ?_
      refine lv_iload_n hx hb dX6_pair_24 rfl (lv_at hl 1 rfl) ?_
      refine va_iald hx hb hK hP 10 0 rfl rfl hw.1 dX6_pair_25 ?_
      have hw := hw.2
      refine lv_goto (tgt := 45) hx hb dX6_pair_26 (by decide) ?_
      exact W.iret (v := Mo_lesser p0.toNatClampNeg) hx hb hr (fun t ht hW => ⟨Mo_lesser p0.toNatClampNeg, rfl, hw, ht⟩) (fun q h => by cases h) dX6_pair_45
  · have hw := hw.1 c4
    refine lv_iconst (v := (-1)) hx hb dX6_pair_14 (by decide) ?_
    exact W.iret (v := (-1)) hx hb hr (fun t ht hW => ⟨(-1), rfl, hw, ht⟩) (fun q h => by cases h) dX6_pair_15
set_option maxHeartbeats 4000000 in
set_option maxRecDepth 100000 in
theorem k_X6_isSolution (l : Launch) (D : va_G) (cy : Nat → ClassId) (hMo hMo_isThere hMo_stationX hMo_stationY hMo_stationZ hMo_told hMo_weight hMo_poleX hMo_poleY hMo_poleZ hMo_lesser hMo_greater hMo_misfit hMo_nodal hMo_order hMo_placeOf hMo_unlikeX hMo_unlikeY hMo_unlikeZ hMo_farUp hMo_farDown hMo_axisOf : Nat) (Mo_isThere : Nat → Int32) (Mo_stationX : Nat → Int32) (Mo_stationY : Nat → Int32) (Mo_stationZ : Nat → Int32) (Mo_told : Nat → Int32) (Mo_weight : Nat → Int32) (Mo_size : Int32) (Mo_extra : Int32) (Mo_poles : Int32) (Mo_poleX : Nat → Int32) (Mo_poleY : Nat → Int32) (Mo_poleZ : Nat → Int32) (Mo_pairs : Int32) (Mo_lesser : Nat → Int32) (Mo_greater : Nat → Int32) (Mo_isKnown : Int32) (Mo_least : Int32) (Mo_kept : Int32) (Mo_misfit : Nat → Int32) (Mo_nodal : Nat → Int32) (Mo_order : Nat → Int32) (Mo_placeOf : Nat → Int32) (Mo_axisX : Int32) (Mo_axisY : Int32) (Mo_axisZ : Int32) (Mo_axes : Int32) (Mo_unlikeX : Nat → Int32) (Mo_unlikeY : Nat → Int32) (Mo_unlikeZ : Nat → Int32) (Mo_farUp : Nat → Int64) (Mo_farDown : Nat → Int64) (Mo_axisOf : Nat → Int32) (p0 : Int32) (sz : Nat) (Q : Int32 → Prop) (hw : wp_X6_isSolution p0 Mo_pairs Q) : Met l yX6_isSolution (wA yX6_isSolution cX6_isSolution 2 (some .boolean)) { frames := 1, cells := 0, slots := 0, locals := 22 } (kPc [.ref hMo, .int p0] D cy (List.flatten [wMo cy hMo hMo_isThere hMo_stationX hMo_stationY hMo_stationZ hMo_told hMo_weight hMo_poleX hMo_poleY hMo_poleZ hMo_lesser hMo_greater hMo_misfit hMo_nodal hMo_order hMo_placeOf hMo_unlikeX hMo_unlikeY hMo_unlikeZ hMo_farUp hMo_farDown hMo_axisOf Mo_isThere Mo_stationX Mo_stationY Mo_stationZ Mo_told Mo_weight Mo_size Mo_extra Mo_poles Mo_poleX Mo_poleY Mo_poleZ Mo_pairs Mo_lesser Mo_greater Mo_isKnown Mo_least Mo_kept Mo_misfit Mo_nodal Mo_order Mo_placeOf Mo_axisX Mo_axisY Mo_axisZ Mo_axes Mo_unlikeX Mo_unlikeY Mo_unlikeZ Mo_farUp Mo_farDown Mo_axisOf]) sz) (kSi Q) 0 0 (fun _ => False) := by
  refine Met.ofW (cc := cX6_isSolution) (maxL := 2) (ret := (some .boolean)) (by decide) rfl ?_
  intro p e s m args below meth c s₁ B hml hv
  obtain ⟨rfl, hsz, hN, hP, hK, hD0⟩ := hv
  have hx := B.exec
  have hb := B.bytes
  have hr := B.returns
  have hts0 := atoms_spec (ws := wA yX6_isSolution cX6_isSolution 2 (some .boolean)) B.pre
  have hts := fun w (h : w ∈ wsL_law) => hts0 w (List.mem_cons_of_mem _ h)
  have hown : s.vm.findClass RX6 = some m.cls := findClass_of_methodNamed B.named
  have hlocks := B.notSynchronized
  subst hsz
  have hD := hD0
  have hl := lv_entry ([.ref hMo, .int p0]) (n := 2) (Nat.le_of_ble_eq_true rfl)
  rw [lg_entry_eq]
  generalize (lg_sl ([.ref hMo, .int p0]) ++ List.replicate (2 - (lg_sl ([.ref hMo, .int p0])).length) Slot.unset).toArray = ls at hl ⊢
  have hl : lv_has ls 2 [(0, .ref hMo), (1, .int p0)] := hl
  unfold wp_X6_isSolution at hw
  refine lv_iload_n hx hb dX6_isSolution_0 rfl (lv_at hl 1 rfl) ?_
  refine lv_iconst (v := 0) hx hb dX6_isSolution_1 (by decide) ?_
  refine lv_iconst (v := 2) hx hb dX6_isSolution_2 (by decide) ?_
  refine lv_aload_n hx hb dX6_isSolution_3 rfl (lv_at hl 0 rfl) ?_
  refine va_get (D := D) (ci := 6) (v := .int Mo_pairs) (C := RX6) (T := TX6) (N := 32) hx hb hts inlX6 hown hK hP 0 rfl rfl 12 (by decide) (hts (.fieldLink RX6 130 "SquarePlanesModel" "pairs" "I") mw_8_12) (fun _ h9 => h9) rfl dX6_isSolution_4 ?_
  refine lv_imul hx hb dX6_isSolution_7 ?_
  refine lv_iconst (v := 1) hx hb dX6_isSolution_8 (by decide) ?_
  refine lv_isub hx hb dX6_isSolution_9 ?_
  refine kc_i (va_runS (As := [.int p0, .int (0), .int ((2 * Mo_pairs) - 1)]) (rest := []) ⟨hx, hb, hml, hown, hts⟩ (k_X6_within l D cy p0 (0 : Int32) ((2 * Mo_pairs) - 1) _ _ hw) (va_cwS 3 hts (gS mw_10_5 mw_10_6 mw_1_5 mw_10_7) rfl rfl rfl (by decide +kernel) ⟨Nat.le_of_ble_eq_true rfl, Nat.le_of_ble_eq_true rfl⟩) (fPre hN hK hP hD [] rfl rfl _) rfl rfl hl.1 rfl (lv_room (Nat.le_of_ble_eq_true rfl)) dX6_isSolution_10 ⟨Nat.zero_le _, Nat.zero_le _⟩) (fun r1 hw => ?_)
  exact W.zret (v := r1) hx hb hr hw.1 (fun t ht hW => ⟨r1, rfl, hw.2, ht⟩) (fun q h => by cases h) dX6_isSolution_13
set_option maxHeartbeats 4000000 in
set_option maxRecDepth 100000 in
theorem k_X6_poleSign (l : Launch) (D : va_G) (cy : Nat → ClassId) (hMo hMo_isThere hMo_stationX hMo_stationY hMo_stationZ hMo_told hMo_weight hMo_poleX hMo_poleY hMo_poleZ hMo_lesser hMo_greater hMo_misfit hMo_nodal hMo_order hMo_placeOf hMo_unlikeX hMo_unlikeY hMo_unlikeZ hMo_farUp hMo_farDown hMo_axisOf : Nat) (Mo_isThere : Nat → Int32) (Mo_stationX : Nat → Int32) (Mo_stationY : Nat → Int32) (Mo_stationZ : Nat → Int32) (Mo_told : Nat → Int32) (Mo_weight : Nat → Int32) (Mo_size : Int32) (Mo_extra : Int32) (Mo_poles : Int32) (Mo_poleX : Nat → Int32) (Mo_poleY : Nat → Int32) (Mo_poleZ : Nat → Int32) (Mo_pairs : Int32) (Mo_lesser : Nat → Int32) (Mo_greater : Nat → Int32) (Mo_isKnown : Int32) (Mo_least : Int32) (Mo_kept : Int32) (Mo_misfit : Nat → Int32) (Mo_nodal : Nat → Int32) (Mo_order : Nat → Int32) (Mo_placeOf : Nat → Int32) (Mo_axisX : Int32) (Mo_axisY : Int32) (Mo_axisZ : Int32) (Mo_axes : Int32) (Mo_unlikeX : Nat → Int32) (Mo_unlikeY : Nat → Int32) (Mo_unlikeZ : Nat → Int32) (Mo_farUp : Nat → Int64) (Mo_farDown : Nat → Int64) (Mo_axisOf : Nat → Int32) (p0 : Int32) (p1 : Int32) (p2 : Int32) (p3 : Int32) (sz : Nat) (Q : Int32 → Prop) (hw : wp_X6_poleSign p0 p1 p2 p3 Mo_poleX Mo_poleY Mo_poleZ Q) : Met l yX6_poleSign (wA yX6_poleSign cX6_poleSign 5 (some .int)) { frames := 1, cells := 0, slots := 0, locals := 20 } (kPc [.ref hMo, .int p0, .int p1, .int p2, .int p3] D cy (List.flatten [wMo cy hMo hMo_isThere hMo_stationX hMo_stationY hMo_stationZ hMo_told hMo_weight hMo_poleX hMo_poleY hMo_poleZ hMo_lesser hMo_greater hMo_misfit hMo_nodal hMo_order hMo_placeOf hMo_unlikeX hMo_unlikeY hMo_unlikeZ hMo_farUp hMo_farDown hMo_axisOf Mo_isThere Mo_stationX Mo_stationY Mo_stationZ Mo_told Mo_weight Mo_size Mo_extra Mo_poles Mo_poleX Mo_poleY Mo_poleZ Mo_pairs Mo_lesser Mo_greater Mo_isKnown Mo_least Mo_kept Mo_misfit Mo_nodal Mo_order Mo_placeOf Mo_axisX Mo_axisY Mo_axisZ Mo_axes Mo_unlikeX Mo_unlikeY Mo_unlikeZ Mo_farUp Mo_farDown Mo_axisOf]) sz) (kSi Q) 0 0 (fun _ => False) := by
  refine Met.ofW (cc := cX6_poleSign) (maxL := 5) (ret := (some .int)) (by decide) rfl ?_
  intro p e s m args below meth c s₁ B hml hv
  obtain ⟨rfl, hsz, hN, hP, hK, hD0⟩ := hv
  have hx := B.exec
  have hb := B.bytes
  have hr := B.returns
  have hts0 := atoms_spec (ws := wA yX6_poleSign cX6_poleSign 5 (some .int)) B.pre
  have hts := fun w (h : w ∈ wsL_law) => hts0 w (List.mem_cons_of_mem _ h)
  have hown : s.vm.findClass RX6 = some m.cls := findClass_of_methodNamed B.named
  have hlocks := B.notSynchronized
  subst hsz
  have hD := hD0
  have hl := lv_entry ([.ref hMo, .int p0, .int p1, .int p2, .int p3]) (n := 5) (Nat.le_of_ble_eq_true rfl)
  rw [lg_entry_eq]
  generalize (lg_sl ([.ref hMo, .int p0, .int p1, .int p2, .int p3]) ++ List.replicate (5 - (lg_sl ([.ref hMo, .int p0, .int p1, .int p2, .int p3])).length) Slot.unset).toArray = ls at hl ⊢
  have hl : lv_has ls 5 [(0, .ref hMo), (1, .int p0), (2, .int p1), (3, .int p2), (4, .int p3)] := hl
  unfold wp_X6_poleSign at hw
  refine lv_aload_n hx hb dX6_poleSign_0 rfl (lv_at hl 0 rfl) ?_
  refine va_get (D := D) (ci := 6) (v := .ref hMo_poleX) (C := RX6) (T := TX6) (N := 32) hx hb hts inlX6 hown hK hP 0 rfl rfl 9 (by decide) (hts (.fieldLink RX6 33 "SquarePlanesModel" "poleX" "[I") mw_7_15) (fun _ h9 => h9) rfl dX6_poleSign_1 ?_
  refine lv_iload_n hx hb dX6_poleSign_4 rfl (lv_at hl 1 rfl) ?_
  refine va_iald hx hb hK hP 7 0 rfl rfl hw.1 dX6_poleSign_5 ?_
  have hw := hw.2
  refine lv_iload_n hx hb dX6_poleSign_6 rfl (lv_at hl 2 rfl) ?_
  refine lv_imul hx hb dX6_poleSign_7 ?_
  refine lv_aload_n hx hb dX6_poleSign_8 rfl (lv_at hl 0 rfl) ?_
  refine va_get (D := D) (ci := 6) (v := .ref hMo_poleY) (C := RX6) (T := TX6) (N := 32) hx hb hts inlX6 hown hK hP 0 rfl rfl 10 (by decide) (hts (.fieldLink RX6 36 "SquarePlanesModel" "poleY" "[I") mw_7_16) (fun _ h9 => h9) rfl dX6_poleSign_9 ?_
  refine lv_iload_n hx hb dX6_poleSign_12 rfl (lv_at hl 1 rfl) ?_
  refine va_iald hx hb hK hP 8 0 rfl rfl hw.1 dX6_poleSign_13 ?_
  have hw := hw.2
  refine lv_iload_n hx hb dX6_poleSign_14 rfl (lv_at hl 3 rfl) ?_
  refine lv_imul hx hb dX6_poleSign_15 ?_
  refine lv_iadd hx hb dX6_poleSign_16 ?_
  refine lv_aload_n hx hb dX6_poleSign_17 rfl (lv_at hl 0 rfl) ?_
  refine va_get (D := D) (ci := 6) (v := .ref hMo_poleZ) (C := RX6) (T := TX6) (N := 32) hx hb hts inlX6 hown hK hP 0 rfl rfl 11 (by decide) (hts (.fieldLink RX6 39 "SquarePlanesModel" "poleZ" "[I") mw_7_17) (fun _ h9 => h9) rfl dX6_poleSign_18 ?_
  refine lv_iload_n hx hb dX6_poleSign_21 rfl (lv_at hl 1 rfl) ?_
  refine va_iald hx hb hK hP 9 0 rfl rfl hw.1 dX6_poleSign_22 ?_
  have hw := hw.2
  refine lv_iload hx hb dX6_poleSign_23 (lv_at hl 4 rfl) ?_
  refine lv_imul hx hb dX6_poleSign_25 ?_
  refine lv_iadd hx hb dX6_poleSign_26 ?_
  refine kc_i (va_runS (As := [.int ((((Mo_poleX p0.toNatClampNeg) * p1) + ((Mo_poleY p0.toNatClampNeg) * p2)) + ((Mo_poleZ p0.toNatClampNeg) * p3))]) (rest := []) ⟨hx, hb, hml, hown, hts⟩ (k_X6_signOf l D cy ((((Mo_poleX p0.toNatClampNeg) * p1) + ((Mo_poleY p0.toNatClampNeg) * p2)) + ((Mo_poleZ p0.toNatClampNeg) * p3)) _ _ hw) (va_cwS 1 hts (gS mw_9_0 mw_9_1 mw_1_5 mw_9_2) rfl rfl rfl (by decide +kernel) ⟨Nat.le_of_ble_eq_true rfl, Nat.le_of_ble_eq_true rfl⟩) (fPre hN hK hP hD [] rfl rfl _) rfl rfl hl.1 rfl (lv_room (Nat.le_of_ble_eq_true rfl)) dX6_poleSign_27 ⟨Nat.zero_le _, Nat.zero_le _⟩) (fun r1 hw => ?_)
  exact W.iret (v := r1) hx hb hr (fun t ht hW => ⟨r1, rfl, hw, ht⟩) (fun q h => by cases h) dX6_poleSign_30
set_option maxHeartbeats 4000000 in
set_option maxRecDepth 100000 in
theorem k_X0_findFarthest (l : Launch) (D : va_G) (cy : Nat → ClassId) (hBu hBu_isHeld hBu_axes hBu_firstSolutions hPl hPl_lesser hPl_greater hPl_axisOf hPl_axisXs hPl_axisYs hPl_axisZs hPl_axisSquares hPl_poleSigns hPo na np nq : Nat) (Bu_count : Int32) (Bu_spreadUpper : Int32) (Bu_spreadLower : Int32) (Bu_centreSolution : Int32) (Bu_version : Int32) (Bu_isHeld : Nat → Int32) (Bu_axes : Nat → Int32) (Bu_firstSolutions : Nat → Int32) (Bu_farUpper : Int32) (Bu_farLower : Int32) (Pl_poleCount : Int32) (Pl_pairCount : Int32) (Pl_lesser : Nat → Int32) (Pl_greater : Nat → Int32) (Pl_axisOf : Nat → Int32) (Pl_axisXs : Nat → Int32) (Pl_axisYs : Nat → Int32) (Pl_axisZs : Nat → Int32) (Pl_axisSquares : Nat → Int32) (Pl_axisCount : Int32) (Pl_poleSigns : Nat → Int32) (p0 : Int32) (sz : Nat) (Q : Int32 → Int32 → Prop) (hw : wp_X0_findFarthest p0 na np nq Bu_count Bu_axes Bu_farUpper Bu_farLower Pl_axisXs Pl_axisYs Pl_axisZs Pl_axisSquares Q) : Met l yX0_findFarthest (wA yX0_findFarthest cX0_findFarthest 5 none) { frames := 2, cells := 0, slots := 0, locals := 45 } (kPc [.ref hBu, .int p0] D cy (List.flatten [wBu cy hBu hBu_isHeld hBu_axes hBu_firstSolutions hPl na Bu_count Bu_spreadUpper Bu_spreadLower Bu_centreSolution Bu_version Bu_isHeld Bu_axes Bu_firstSolutions Bu_farUpper Bu_farLower, wPl cy hPl hPl_lesser hPl_greater hPl_axisOf hPl_axisXs hPl_axisYs hPl_axisZs hPl_axisSquares hPl_poleSigns hPo np nq Pl_poleCount Pl_pairCount Pl_lesser Pl_greater Pl_axisOf Pl_axisXs Pl_axisYs Pl_axisZs Pl_axisSquares Pl_axisCount Pl_poleSigns]) sz) (va_Qv (fun (u : Int32 × Int32) => Q u.1 u.2) (fun u t => kB D cy (va_A (List.flatten [wBu cy hBu hBu_isHeld hBu_axes hBu_firstSolutions hPl na Bu_count Bu_spreadUpper Bu_spreadLower Bu_centreSolution Bu_version Bu_isHeld Bu_axes Bu_firstSolutions Bu_farUpper Bu_farLower, wPl cy hPl hPl_lesser hPl_greater hPl_axisOf hPl_axisXs hPl_axisYs hPl_axisZs hPl_axisSquares hPl_poleSigns hPo np nq Pl_poleCount Pl_pairCount Pl_lesser Pl_greater Pl_axisOf Pl_axisXs Pl_axisYs Pl_axisZs Pl_axisSquares Pl_axisCount Pl_poleSigns]) sz) (List.flatten [wBu cy hBu hBu_isHeld hBu_axes hBu_firstSolutions hPl na Bu_count Bu_spreadUpper Bu_spreadLower Bu_centreSolution Bu_version Bu_isHeld Bu_axes Bu_firstSolutions u.1 u.2, wPl cy hPl hPl_lesser hPl_greater hPl_axisOf hPl_axisXs hPl_axisYs hPl_axisZs hPl_axisSquares hPl_poleSigns hPo np nq Pl_poleCount Pl_pairCount Pl_lesser Pl_greater Pl_axisOf Pl_axisXs Pl_axisYs Pl_axisZs Pl_axisSquares Pl_axisCount Pl_poleSigns]) t) (va_A (List.flatten [wBu cy hBu hBu_isHeld hBu_axes hBu_firstSolutions hPl na Bu_count Bu_spreadUpper Bu_spreadLower Bu_centreSolution Bu_version Bu_isHeld Bu_axes Bu_firstSolutions Bu_farUpper Bu_farLower, wPl cy hPl hPl_lesser hPl_greater hPl_axisOf hPl_axisXs hPl_axisYs hPl_axisZs hPl_axisSquares hPl_poleSigns hPo np nq Pl_poleCount Pl_pairCount Pl_lesser Pl_greater Pl_axisOf Pl_axisXs Pl_axisYs Pl_axisZs Pl_axisSquares Pl_axisCount Pl_poleSigns]) sz)) 0 0 (va_A (List.flatten [wBu cy hBu hBu_isHeld hBu_axes hBu_firstSolutions hPl na Bu_count Bu_spreadUpper Bu_spreadLower Bu_centreSolution Bu_version Bu_isHeld Bu_axes Bu_firstSolutions Bu_farUpper Bu_farLower, wPl cy hPl hPl_lesser hPl_greater hPl_axisOf hPl_axisXs hPl_axisYs hPl_axisZs hPl_axisSquares hPl_poleSigns hPo np nq Pl_poleCount Pl_pairCount Pl_lesser Pl_greater Pl_axisOf Pl_axisXs Pl_axisYs Pl_axisZs Pl_axisSquares Pl_axisCount Pl_poleSigns]) sz) := by
  refine Met.ofW (cc := cX0_findFarthest) (maxL := 5) (ret := none) (by decide) rfl ?_
  intro p e s m args below meth c s₁ B hml hv
  obtain ⟨rfl, hsz, hN, hP, hK, hD0⟩ := hv
  have hx := B.exec
  have hb := B.bytes
  have hr := B.returns
  have hts0 := atoms_spec (ws := wA yX0_findFarthest cX0_findFarthest 5 none) B.pre
  have hts := fun w (h : w ∈ wsL_law) => hts0 w (List.mem_cons_of_mem _ h)
  have hown : s.vm.findClass RX0 = some m.cls := findClass_of_methodNamed B.named
  have hlocks := B.notSynchronized
  subst hsz
  have hD := hD0.self (sz := s.heap.size)
  generalize hAe : va_A (List.flatten [wBu cy hBu hBu_isHeld hBu_axes hBu_firstSolutions hPl na Bu_count Bu_spreadUpper Bu_spreadLower Bu_centreSolution Bu_version Bu_isHeld Bu_axes Bu_firstSolutions Bu_farUpper Bu_farLower, wPl cy hPl hPl_lesser hPl_greater hPl_axisOf hPl_axisXs hPl_axisYs hPl_axisZs hPl_axisSquares hPl_poleSigns hPo np nq Pl_poleCount Pl_pairCount Pl_lesser Pl_greater Pl_axisOf Pl_axisXs Pl_axisYs Pl_axisZs Pl_axisSquares Pl_axisCount Pl_poleSigns]) s.heap.size = A at hD ⊢
  have hA : ∀ q : Nat, s.heap.size ≤ q → A q := fun q h => by rw [← hAe]; exact Or.inr h
  have hS : va_S A s.heap s.heap [] := va_S.rf
  have hP : va_P D vwCl (List.flatten [wBu cy hBu hBu_isHeld hBu_axes hBu_firstSolutions hPl na Bu_count Bu_spreadUpper Bu_spreadLower Bu_centreSolution Bu_version Bu_isHeld Bu_axes Bu_firstSolutions Bu_farUpper Bu_farLower, wPl cy hPl hPl_lesser hPl_greater hPl_axisOf hPl_axisXs hPl_axisYs hPl_axisZs hPl_axisSquares hPl_poleSigns hPo np nq Pl_poleCount Pl_pairCount Pl_lesser Pl_greater Pl_axisOf Pl_axisXs Pl_axisYs Pl_axisZs Pl_axisSquares Pl_axisCount Pl_poleSigns]) s.heap := hP
  have hl := lv_entry ([.ref hBu, .int p0]) (n := 5) (Nat.le_of_ble_eq_true rfl)
  rw [lg_entry_eq]
  generalize (lg_sl ([.ref hBu, .int p0]) ++ List.replicate (5 - (lg_sl ([.ref hBu, .int p0])).length) Slot.unset).toArray = ls at hl ⊢
  have hl : lv_has ls 5 [(0, .ref hBu), (1, .int p0)] := hl
  unfold wp_X0_findFarthest at hw
  refine lv_aload_n hx hb dX0_findFarthest_0 rfl (lv_at hl 0 rfl) ?_
  refine lv_iconst (v := 0) hx hb dX0_findFarthest_1 (by decide) ?_
  refine va_put (D := D) (ci := 0) (v := .int 0) (ty := tyX0 9) (C := RX0) (T := TX0) (N := 11) hx hb hts inlX0 tyX0 tyX0_ok nmX0 hown hK hP hD hS 0 rfl rfl 9 (by decide) (hts (.fieldLink RX0 53 "SquarePlanes$Bundle" "farUpper" "I") mw_26_4) (fun _ h9 => h9) rfl (tyX0_ok 9 (by decide)) rfl rfl (Nat.le_of_ble_eq_true rfl) dX0_findFarthest_2 (fun H locs hP hD hS => ?_)
  have hP : va_P D vwCl (List.flatten [wBu cy hBu hBu_isHeld hBu_axes hBu_firstSolutions hPl na Bu_count Bu_spreadUpper Bu_spreadLower Bu_centreSolution Bu_version Bu_isHeld Bu_axes Bu_firstSolutions 0 Bu_farLower, wPl cy hPl hPl_lesser hPl_greater hPl_axisOf hPl_axisXs hPl_axisYs hPl_axisZs hPl_axisSquares hPl_poleSigns hPo np nq Pl_poleCount Pl_pairCount Pl_lesser Pl_greater Pl_axisOf Pl_axisXs Pl_axisYs Pl_axisZs Pl_axisSquares Pl_axisCount Pl_poleSigns]) H := hP
  have hD : va_D A (List.flatten [wBu cy hBu hBu_isHeld hBu_axes hBu_firstSolutions hPl na Bu_count Bu_spreadUpper Bu_spreadLower Bu_centreSolution Bu_version Bu_isHeld Bu_axes Bu_firstSolutions 0 Bu_farLower, wPl cy hPl hPl_lesser hPl_greater hPl_axisOf hPl_axisXs hPl_axisYs hPl_axisZs hPl_axisSquares hPl_poleSigns hPo np nq Pl_poleCount Pl_pairCount Pl_lesser Pl_greater Pl_axisOf Pl_axisXs Pl_axisYs Pl_axisZs Pl_axisSquares Pl_axisCount Pl_poleSigns]) := hD
  refine lv_aload_n hx hb dX0_findFarthest_5 rfl (lv_at hl 0 rfl) ?_
  refine lv_iconst (v := 1) hx hb dX0_findFarthest_6 (by decide) ?_
  refine va_put (D := D) (ci := 0) (v := .int 1) (ty := tyX0 10) (C := RX0) (T := TX0) (N := 11) hx hb hts inlX0 tyX0 tyX0_ok nmX0 hown hK hP hD hS 0 rfl rfl 10 (by decide) (hts (.fieldLink RX0 16 "SquarePlanes$Bundle" "farLower" "I") mw_6_18) (fun _ h9 => h9) rfl (tyX0_ok 10 (by decide)) rfl rfl (Nat.le_of_ble_eq_true rfl) dX0_findFarthest_7 (fun H locs hP hD hS => ?_)
  have hP : va_P D vwCl (List.flatten [wBu cy hBu hBu_isHeld hBu_axes hBu_firstSolutions hPl na Bu_count Bu_spreadUpper Bu_spreadLower Bu_centreSolution Bu_version Bu_isHeld Bu_axes Bu_firstSolutions 0 1, wPl cy hPl hPl_lesser hPl_greater hPl_axisOf hPl_axisXs hPl_axisYs hPl_axisZs hPl_axisSquares hPl_poleSigns hPo np nq Pl_poleCount Pl_pairCount Pl_lesser Pl_greater Pl_axisOf Pl_axisXs Pl_axisYs Pl_axisZs Pl_axisSquares Pl_axisCount Pl_poleSigns]) H := hP
  have hD : va_D A (List.flatten [wBu cy hBu hBu_isHeld hBu_axes hBu_firstSolutions hPl na Bu_count Bu_spreadUpper Bu_spreadLower Bu_centreSolution Bu_version Bu_isHeld Bu_axes Bu_firstSolutions 0 1, wPl cy hPl hPl_lesser hPl_greater hPl_axisOf hPl_axisXs hPl_axisYs hPl_axisZs hPl_axisSquares hPl_poleSigns hPo np nq Pl_poleCount Pl_pairCount Pl_lesser Pl_greater Pl_axisOf Pl_axisXs Pl_axisYs Pl_axisZs Pl_axisSquares Pl_axisCount Pl_poleSigns]) := hD
  refine lv_iconst (v := 0) hx hb dX0_findFarthest_10 (by decide) ?_
  refine lv_istore_n (lv' := [(2, .int 0), (0, .ref hBu), (1, .int p0)]) hx hb dX0_findFarthest_11 rfl hl (by decide) rfl (fun ls hl => ?_)
  obtain ⟨n12, hw⟩ := hw
  have kl12 : ∀ (K12_94 : Int32 → Int32 → Int32 → Prop) (K12_85 : Int32 → Int32 → Int32 → Prop) (hk12_94 : ∀ (y2_12 : Int32) (Bu_farUpper_v_12 : Int32) (Bu_farLower_v_12 : Int32) (H : Heap) (locs : List Loc) (ls : Array Slot), K12_94 y2_12 Bu_farUpper_v_12 Bu_farLower_v_12 → va_P D vwCl (List.flatten [wBu cy hBu hBu_isHeld hBu_axes hBu_firstSolutions hPl na Bu_count Bu_spreadUpper Bu_spreadLower Bu_centreSolution Bu_version Bu_isHeld Bu_axes Bu_firstSolutions Bu_farUpper_v_12 Bu_farLower_v_12, wPl cy hPl hPl_lesser hPl_greater hPl_axisOf hPl_axisXs hPl_axisYs hPl_axisZs hPl_axisSquares hPl_poleSigns hPo np nq Pl_poleCount Pl_pairCount Pl_lesser Pl_greater Pl_axisOf Pl_axisXs Pl_axisYs Pl_axisZs Pl_axisSquares Pl_axisCount Pl_poleSigns]) H → va_D A (List.flatten [wBu cy hBu hBu_isHeld hBu_axes hBu_firstSolutions hPl na Bu_count Bu_spreadUpper Bu_spreadLower Bu_centreSolution Bu_version Bu_isHeld Bu_axes Bu_firstSolutions Bu_farUpper_v_12 Bu_farLower_v_12, wPl cy hPl hPl_lesser hPl_greater hPl_axisOf hPl_axisXs hPl_axisYs hPl_axisZs hPl_axisSquares hPl_poleSigns hPo np nq Pl_poleCount Pl_pairCount Pl_lesser Pl_greater Pl_axisOf Pl_axisXs Pl_axisYs Pl_axisZs Pl_axisSquares Pl_axisCount Pl_poleSigns]) → va_S A s.heap H locs → lv_has ls 5 [(0, .ref hBu), (1, .int p0), (2, .int y2_12)] → W p l e (headSpec (wA yX0_findFarthest cX0_findFarthest 5 none) { frames := 2, cells := 0, slots := 0, locals := 45 }).room s m #[.ref hBu, .int p0] below meth c H locs 0 0 (MQ below (va_Qv (fun (u : Int32 × Int32) => Q u.1 u.2) (fun u t => kB D cy A (List.flatten [wBu cy hBu hBu_isHeld hBu_axes hBu_firstSolutions hPl na Bu_count Bu_spreadUpper Bu_spreadLower Bu_centreSolution Bu_version Bu_isHeld Bu_axes Bu_firstSolutions u.1 u.2, wPl cy hPl hPl_lesser hPl_greater hPl_axisOf hPl_axisXs hPl_axisYs hPl_axisZs hPl_axisSquares hPl_poleSigns hPo np nq Pl_poleCount Pl_pairCount Pl_lesser Pl_greater Pl_axisOf Pl_axisXs Pl_axisYs Pl_axisZs Pl_axisSquares Pl_axisCount Pl_poleSigns]) t) A) #[.ref hBu, .int p0] s 0 0 A) (F0 m 94 ls [])) (hk12_85 : ∀ (y2_12 : Int32) (Bu_farUpper_v_12 : Int32) (Bu_farLower_v_12 : Int32) (H : Heap) (locs : List Loc) (ls : Array Slot), K12_85 y2_12 Bu_farUpper_v_12 Bu_farLower_v_12 → va_P D vwCl (List.flatten [wBu cy hBu hBu_isHeld hBu_axes hBu_firstSolutions hPl na Bu_count Bu_spreadUpper Bu_spreadLower Bu_centreSolution Bu_version Bu_isHeld Bu_axes Bu_firstSolutions Bu_farUpper_v_12 Bu_farLower_v_12, wPl cy hPl hPl_lesser hPl_greater hPl_axisOf hPl_axisXs hPl_axisYs hPl_axisZs hPl_axisSquares hPl_poleSigns hPo np nq Pl_poleCount Pl_pairCount Pl_lesser Pl_greater Pl_axisOf Pl_axisXs Pl_axisYs Pl_axisZs Pl_axisSquares Pl_axisCount Pl_poleSigns]) H → va_D A (List.flatten [wBu cy hBu hBu_isHeld hBu_axes hBu_firstSolutions hPl na Bu_count Bu_spreadUpper Bu_spreadLower Bu_centreSolution Bu_version Bu_isHeld Bu_axes Bu_firstSolutions Bu_farUpper_v_12 Bu_farLower_v_12, wPl cy hPl hPl_lesser hPl_greater hPl_axisOf hPl_axisXs hPl_axisYs hPl_axisZs hPl_axisSquares hPl_poleSigns hPo np nq Pl_poleCount Pl_pairCount Pl_lesser Pl_greater Pl_axisOf Pl_axisXs Pl_axisYs Pl_axisZs Pl_axisSquares Pl_axisCount Pl_poleSigns]) → va_S A s.heap H locs → lv_has ls 5 [(0, .ref hBu), (1, .int p0), (2, .int y2_12)] → W p l e (headSpec (wA yX0_findFarthest cX0_findFarthest 5 none) { frames := 2, cells := 0, slots := 0, locals := 45 }).room s m #[.ref hBu, .int p0] below meth c H locs 0 0 (MQ below (va_Qv (fun (u : Int32 × Int32) => Q u.1 u.2) (fun u t => kB D cy A (List.flatten [wBu cy hBu hBu_isHeld hBu_axes hBu_firstSolutions hPl na Bu_count Bu_spreadUpper Bu_spreadLower Bu_centreSolution Bu_version Bu_isHeld Bu_axes Bu_firstSolutions u.1 u.2, wPl cy hPl hPl_lesser hPl_greater hPl_axisOf hPl_axisXs hPl_axisYs hPl_axisZs hPl_axisSquares hPl_poleSigns hPo np nq Pl_poleCount Pl_pairCount Pl_lesser Pl_greater Pl_axisOf Pl_axisXs Pl_axisYs Pl_axisZs Pl_axisSquares Pl_axisCount Pl_poleSigns]) t) A) #[.ref hBu, .int p0] s 0 0 A) (F0 m 85 ls [])) (n : Nat) (y2_12 : Int32) (Bu_farUpper_v_12 : Int32) (Bu_farLower_v_12 : Int32) (H : Heap) (locs : List Loc) (ls : Array Slot), wp_X0_findFarthest_L12 p0 na np nq Bu_count Bu_axes Pl_axisXs Pl_axisYs Pl_axisZs Pl_axisSquares K12_94 K12_85 n y2_12 Bu_farUpper_v_12 Bu_farLower_v_12 → va_P D vwCl (List.flatten [wBu cy hBu hBu_isHeld hBu_axes hBu_firstSolutions hPl na Bu_count Bu_spreadUpper Bu_spreadLower Bu_centreSolution Bu_version Bu_isHeld Bu_axes Bu_firstSolutions Bu_farUpper_v_12 Bu_farLower_v_12, wPl cy hPl hPl_lesser hPl_greater hPl_axisOf hPl_axisXs hPl_axisYs hPl_axisZs hPl_axisSquares hPl_poleSigns hPo np nq Pl_poleCount Pl_pairCount Pl_lesser Pl_greater Pl_axisOf Pl_axisXs Pl_axisYs Pl_axisZs Pl_axisSquares Pl_axisCount Pl_poleSigns]) H → va_D A (List.flatten [wBu cy hBu hBu_isHeld hBu_axes hBu_firstSolutions hPl na Bu_count Bu_spreadUpper Bu_spreadLower Bu_centreSolution Bu_version Bu_isHeld Bu_axes Bu_firstSolutions Bu_farUpper_v_12 Bu_farLower_v_12, wPl cy hPl hPl_lesser hPl_greater hPl_axisOf hPl_axisXs hPl_axisYs hPl_axisZs hPl_axisSquares hPl_poleSigns hPo np nq Pl_poleCount Pl_pairCount Pl_lesser Pl_greater Pl_axisOf Pl_axisXs Pl_axisYs Pl_axisZs Pl_axisSquares Pl_axisCount Pl_poleSigns]) → va_S A s.heap H locs → lv_has ls 5 [(0, .ref hBu), (1, .int p0), (2, .int y2_12)] → W p l e (headSpec (wA yX0_findFarthest cX0_findFarthest 5 none) { frames := 2, cells := 0, slots := 0, locals := 45 }).room s m #[.ref hBu, .int p0] below meth c H locs 0 0 (MQ below (va_Qv (fun (u : Int32 × Int32) => Q u.1 u.2) (fun u t => kB D cy A (List.flatten [wBu cy hBu hBu_isHeld hBu_axes hBu_firstSolutions hPl na Bu_count Bu_spreadUpper Bu_spreadLower Bu_centreSolution Bu_version Bu_isHeld Bu_axes Bu_firstSolutions u.1 u.2, wPl cy hPl hPl_lesser hPl_greater hPl_axisOf hPl_axisXs hPl_axisYs hPl_axisZs hPl_axisSquares hPl_poleSigns hPo np nq Pl_poleCount Pl_pairCount Pl_lesser Pl_greater Pl_axisOf Pl_axisXs Pl_axisYs Pl_axisZs Pl_axisSquares Pl_axisCount Pl_poleSigns]) t) A) #[.ref hBu, .int p0] s 0 0 A) (F0 m 12 ls []) := by
    intro K12_94 K12_85 hk12_94 hk12_85 n
    induction n with
    | zero =>
      intro y2_12 Bu_farUpper_v_12 Bu_farLower_v_12 H locs ls hw
      exact hw.elim
    | succ n ih12 =>
      intro y2_12 Bu_farUpper_v_12 Bu_farLower_v_12 H locs ls hw hP hD hS hl
      unfold wp_X0_findFarthest_L12 at hw
      refine lv_iload_n hx hb dX0_findFarthest_12 rfl (lv_at hl 2 rfl) ?_
      refine lv_aload_n hx hb dX0_findFarthest_13 rfl (lv_at hl 0 rfl) ?_
      refine va_get (D := D) (ci := 0) (v := .int Bu_count) (C := RX0) (T := TX0) (N := 11) hx hb hts inlX0 hown hK hP 0 rfl rfl 1 (by decide) (hts (.fieldLink RX0 46 "SquarePlanes$Bundle" "count" "I") mw_26_3) (fun _ h9 => h9) rfl dX0_findFarthest_14 ?_
      refine lv_icmp_ge (tgt := 94) hx hb dX0_findFarthest_17 (by decide) (fun c7_12 => ?_) (fun c7_12 => ?_)
      · have hw := hw.1 c7_12
        exact hk12_94 y2_12 Bu_farUpper_v_12 Bu_farLower_v_12 _ _ ls hw hP hD hS (lv_sub hl [0, 1, 2] rfl)
      · have hw := hw.2 c7_12
        refine lv_aload_n hx hb dX0_findFarthest_20 rfl (lv_at hl 0 rfl) ?_
        refine va_get (D := D) (ci := 0) (v := .ref hPl) (C := RX0) (T := TX0) (N := 11) hx hb hts inlX0 hown hK hP 0 rfl rfl 0 (by decide) (hts (.fieldLink RX0 19 "SquarePlanes$Bundle" "planes" "LSquarePlanes$Planes;") mw_6_19) (fun _ h9 => h9) rfl dX0_findFarthest_21 ?_
        refine lv_iload_n hx hb dX0_findFarthest_24 rfl (lv_at hl 1 rfl) ?_
        refine lv_aload_n hx hb dX0_findFarthest_25 rfl (lv_at hl 0 rfl) ?_
        refine va_get (D := D) (ci := 0) (v := .ref hBu_axes) (C := RX0) (T := TX0) (N := 11) hx hb hts inlX0 hown hK hP 0 rfl rfl 7 (by decide) (hts (.fieldLink RX0 32 "SquarePlanes$Bundle" "axes" "[I") mw_6_22) (fun _ h9 => h9) rfl dX0_findFarthest_26 ?_
        refine lv_iload_n hx hb dX0_findFarthest_29 rfl (lv_at hl 2 rfl) ?_
        refine va_iald hx hb hK hP 2 0 rfl rfl hw.1 dX0_findFarthest_30 ?_
        have hw := hw.2
        refine kc_i (va_runV (As := [.int p0, .int (Bu_axes y2_12.toNatClampNeg)]) (rest := []) ⟨hx, hb, hml, hown, hts⟩ (k_X1_apartUpper l D cy hPl hPl_lesser hPl_greater hPl_axisOf hPl_axisXs hPl_axisYs hPl_axisZs hPl_axisSquares hPl_poleSigns hPo np nq Pl_poleCount Pl_pairCount Pl_lesser Pl_greater Pl_axisOf Pl_axisXs Pl_axisYs Pl_axisZs Pl_axisSquares Pl_axisCount Pl_poleSigns p0 (Bu_axes y2_12.toNatClampNeg) _ _ hw) (cwV 2 hts (gV mw_26_17 mw_24_11 mw_24_12 mw_2_3 mw_24_13) rfl rfl rfl (by decide +kernel) ⟨Nat.le_of_ble_eq_true rfl, Nat.le_of_ble_eq_true rfl⟩) (fPreV hN hK hP hD [1] rfl rfl 4 (ci := 1) rfl rfl rfl _) rfl rfl hl.1 rfl (lv_room (Nat.le_of_ble_eq_true rfl)) dX0_findFarthest_31 ⟨Nat.zero_le _, Nat.zero_le _⟩) (fun r1_12 hw => ?_)
        refine lv_istore_n (lv' := [(3, .int r1_12), (0, .ref hBu), (1, .int p0), (2, .int y2_12)]) hx hb dX0_findFarthest_34 rfl hl (by decide) rfl (fun ls hl => ?_)
        refine lv_aload_n hx hb dX0_findFarthest_35 rfl (lv_at hl 1 rfl) ?_
        refine va_get (D := D) (ci := 0) (v := .ref hPl) (C := RX0) (T := TX0) (N := 11) hx hb hts inlX0 hown hK hP 0 rfl rfl 0 (by decide) (hts (.fieldLink RX0 19 "SquarePlanes$Bundle" "planes" "LSquarePlanes$Planes;") mw_6_19) (fun _ h9 => h9) rfl dX0_findFarthest_36 ?_
        refine lv_iload_n hx hb dX0_findFarthest_39 rfl (lv_at hl 2 rfl) ?_
        refine lv_aload_n hx hb dX0_findFarthest_40 rfl (lv_at hl 1 rfl) ?_
        refine va_get (D := D) (ci := 0) (v := .ref hBu_axes) (C := RX0) (T := TX0) (N := 11) hx hb hts inlX0 hown hK hP 0 rfl rfl 7 (by decide) (hts (.fieldLink RX0 32 "SquarePlanes$Bundle" "axes" "[I") mw_6_22) (fun _ h9 => h9) rfl dX0_findFarthest_41 ?_
        refine lv_iload_n hx hb dX0_findFarthest_44 rfl (lv_at hl 3 rfl) ?_
        refine va_iald hx hb hK hP 2 0 rfl rfl hw.1 dX0_findFarthest_45 ?_
        have hw := hw.2
        refine kc_i (va_runV (As := [.int p0, .int (Bu_axes y2_12.toNatClampNeg)]) (rest := []) ⟨hx, hb, hml, hown, hts⟩ (k_X1_apartLower l D cy hPl hPl_lesser hPl_greater hPl_axisOf hPl_axisXs hPl_axisYs hPl_axisZs hPl_axisSquares hPl_poleSigns hPo np nq Pl_poleCount Pl_pairCount Pl_lesser Pl_greater Pl_axisOf Pl_axisXs Pl_axisYs Pl_axisZs Pl_axisSquares Pl_axisCount Pl_poleSigns p0 (Bu_axes y2_12.toNatClampNeg) _ _ hw) (cwV 2 hts (gV mw_26_18 mw_24_19 mw_24_20 mw_2_3 mw_24_21) rfl rfl rfl (by decide +kernel) ⟨Nat.le_of_ble_eq_true rfl, Nat.le_of_ble_eq_true rfl⟩) (fPreV hN hK hP hD [1] rfl rfl 4 (ci := 1) rfl rfl rfl _) rfl rfl hl.1 rfl (lv_room (Nat.le_of_ble_eq_true rfl)) dX0_findFarthest_46 ⟨Nat.zero_le _, Nat.zero_le _⟩) (fun r2_12 hw => ?_)
        refine lv_istore (lv' := [(4, .int r2_12), (3, .int r1_12), (0, .ref hBu), (1, .int p0), (2, .int y2_12)]) hx hb dX0_findFarthest_49 hl (by decide) rfl (fun ls hl => ?_)
        refine lv_iload_n hx hb dX0_findFarthest_51 rfl (lv_at hl 1 rfl) ?_
        refine lv_iload hx hb dX0_findFarthest_52 (lv_at hl 0 rfl) ?_
        refine lv_aload_n hx hb dX0_findFarthest_54 rfl (lv_at hl 2 rfl) ?_
        refine va_get (D := D) (ci := 0) (v := .int Bu_farUpper_v_12) (C := RX0) (T := TX0) (N := 11) hx hb hts inlX0 hown hK hP 0 rfl rfl 9 (by decide) (hts (.fieldLink RX0 53 "SquarePlanes$Bundle" "farUpper" "I") mw_26_4) (fun _ h9 => h9) rfl dX0_findFarthest_55 ?_
        refine lv_aload_n hx hb dX0_findFarthest_58 rfl (lv_at hl 2 rfl) ?_
        refine va_get (D := D) (ci := 0) (v := .int Bu_farLower_v_12) (C := RX0) (T := TX0) (N := 11) hx hb hts inlX0 hown hK hP 0 rfl rfl 10 (by decide) (hts (.fieldLink RX0 16 "SquarePlanes$Bundle" "farLower" "I") mw_6_18) (fun _ h9 => h9) rfl dX0_findFarthest_59 ?_
        refine kc_i (va_runSN (As := [.int r1_12, .int r2_12, .int Bu_farUpper_v_12, .int Bu_farLower_v_12]) (rest := []) ⟨hx, hb, hml, hown, hts⟩ (k_X5_isGreater l D cy r1_12 r2_12 Bu_farUpper_v_12 Bu_farLower_v_12 _ _ hw) ⟨va_cnB 4 hts (gA mw_26_20) rfl rfl rfl hN.2.2.2.2 (hts (.initialized RX5) mw_1_2) (by decide +kernel) ⟨Nat.le_of_ble_eq_true rfl, Nat.le_of_ble_eq_true rfl⟩, hts (.static yX5_isGreater) mw_26_19, trivial⟩ (fPre hN hK hP hD [] rfl rfl _) rfl rfl hl.1 rfl (lv_room (Nat.le_of_ble_eq_true rfl)) dX0_findFarthest_62 ⟨Nat.zero_le _, Nat.zero_le _⟩) (fun r3_12 hw => ?_)
        refine lv_if_eq (tgt := 79) hx hb dX0_findFarthest_65 (by decide) (fun c6_12 => ?_) (fun c6_12 => ?_)
        · have hw := hw.1 c6_12
          refine lv_iload_n hx hb dX0_findFarthest_79 rfl (lv_at hl 1 rfl) ?_
          refine lv_iload hx hb dX0_findFarthest_80 (lv_at hl 0 rfl) ?_
          refine lv_icmp_ne (tgt := 88) hx hb dX0_findFarthest_82 (by decide) (fun c4_12 => ?_) (fun c4_12 => ?_)
          · have hw := hw.2 c4_12
            refine lv_iinc (v := y2_12 + 1) (lv' := [(2, .int (y2_12 + 1)), (4, .int r2_12), (3, .int r1_12), (0, .ref hBu), (1, .int p0)]) hx hb dX0_findFarthest_88 hl (k := 4) rfl rfl (by decide) rfl (fun ls hl => ?_)
            refine lv_goto (tgt := 12) hx hb dX0_findFarthest_91 (by decide) ?_
            exact ih12 (y2_12 + 1) Bu_farUpper_v_12 Bu_farLower_v_12 _ _ ls hw hP hD hS (lv_sub hl [3, 4, 0] rfl)
          · have hw := hw.1 c4_12
            exact hk12_85 y2_12 Bu_farUpper_v_12 Bu_farLower_v_12 _ _ ls hw hP hD hS (lv_sub hl [2, 3, 4] rfl)
        · have hw := hw.2 c6_12
          refine lv_aload_n hx hb dX0_findFarthest_68 rfl (lv_at hl 2 rfl) ?_
          refine lv_iload_n hx hb dX0_findFarthest_69 rfl (lv_at hl 1 rfl) ?_
          refine va_put (D := D) (ci := 0) (v := .int r1_12) (ty := tyX0 9) (C := RX0) (T := TX0) (N := 11) hx hb hts inlX0 tyX0 tyX0_ok nmX0 hown hK hP hD hS 0 rfl rfl 9 (by decide) (hts (.fieldLink RX0 53 "SquarePlanes$Bundle" "farUpper" "I") mw_26_4) (fun _ h9 => h9) rfl (tyX0_ok 9 (by decide)) rfl rfl (Nat.le_of_ble_eq_true rfl) dX0_findFarthest_70 (fun H locs hP hD hS => ?_)
          have hP : va_P D vwCl (List.flatten [wBu cy hBu hBu_isHeld hBu_axes hBu_firstSolutions hPl na Bu_count Bu_spreadUpper Bu_spreadLower Bu_centreSolution Bu_version Bu_isHeld Bu_axes Bu_firstSolutions r1_12 Bu_farLower_v_12, wPl cy hPl hPl_lesser hPl_greater hPl_axisOf hPl_axisXs hPl_axisYs hPl_axisZs hPl_axisSquares hPl_poleSigns hPo np nq Pl_poleCount Pl_pairCount Pl_lesser Pl_greater Pl_axisOf Pl_axisXs Pl_axisYs Pl_axisZs Pl_axisSquares Pl_axisCount Pl_poleSigns]) H := hP
          have hD : va_D A (List.flatten [wBu cy hBu hBu_isHeld hBu_axes hBu_firstSolutions hPl na Bu_count Bu_spreadUpper Bu_spreadLower Bu_centreSolution Bu_version Bu_isHeld Bu_axes Bu_firstSolutions r1_12 Bu_farLower_v_12, wPl cy hPl hPl_lesser hPl_greater hPl_axisOf hPl_axisXs hPl_axisYs hPl_axisZs hPl_axisSquares hPl_poleSigns hPo np nq Pl_poleCount Pl_pairCount Pl_lesser Pl_greater Pl_axisOf Pl_axisXs Pl_axisYs Pl_axisZs Pl_axisSquares Pl_axisCount Pl_poleSigns]) := hD
          refine lv_aload_n hx hb dX0_findFarthest_73 rfl (lv_at hl 2 rfl) ?_
          refine lv_iload hx hb dX0_findFarthest_74 (lv_at hl 0 rfl) ?_
          refine va_put (D := D) (ci := 0) (v := .int r2_12) (ty := tyX0 10) (C := RX0) (T := TX0) (N := 11) hx hb hts inlX0 tyX0 tyX0_ok nmX0 hown hK hP hD hS 0 rfl rfl 10 (by decide) (hts (.fieldLink RX0 16 "SquarePlanes$Bundle" "farLower" "I") mw_6_18) (fun _ h9 => h9) rfl (tyX0_ok 10 (by decide)) rfl rfl (Nat.le_of_ble_eq_true rfl) dX0_findFarthest_76 (fun H locs hP hD hS => ?_)
          have hP : va_P D vwCl (List.flatten [wBu cy hBu hBu_isHeld hBu_axes hBu_firstSolutions hPl na Bu_count Bu_spreadUpper Bu_spreadLower Bu_centreSolution Bu_version Bu_isHeld Bu_axes Bu_firstSolutions r1_12 r2_12, wPl cy hPl hPl_lesser hPl_greater hPl_axisOf hPl_axisXs hPl_axisYs hPl_axisZs hPl_axisSquares hPl_poleSigns hPo np nq Pl_poleCount Pl_pairCount Pl_lesser Pl_greater Pl_axisOf Pl_axisXs Pl_axisYs Pl_axisZs Pl_axisSquares Pl_axisCount Pl_poleSigns]) H := hP
          have hD : va_D A (List.flatten [wBu cy hBu hBu_isHeld hBu_axes hBu_firstSolutions hPl na Bu_count Bu_spreadUpper Bu_spreadLower Bu_centreSolution Bu_version Bu_isHeld Bu_axes Bu_firstSolutions r1_12 r2_12, wPl cy hPl hPl_lesser hPl_greater hPl_axisOf hPl_axisXs hPl_axisYs hPl_axisZs hPl_axisSquares hPl_poleSigns hPo np nq Pl_poleCount Pl_pairCount Pl_lesser Pl_greater Pl_axisOf Pl_axisXs Pl_axisYs Pl_axisZs Pl_axisSquares Pl_axisCount Pl_poleSigns]) := hD
          refine lv_iload_n hx hb dX0_findFarthest_79 rfl (lv_at hl 1 rfl) ?_
          refine lv_iload hx hb dX0_findFarthest_80 (lv_at hl 0 rfl) ?_
          refine lv_icmp_ne (tgt := 88) hx hb dX0_findFarthest_82 (by decide) (fun c5_12 => ?_) (fun c5_12 => ?_)
          · have hw := hw.2 c5_12
            refine lv_iinc (v := y2_12 + 1) (lv' := [(2, .int (y2_12 + 1)), (4, .int r2_12), (3, .int r1_12), (0, .ref hBu), (1, .int p0)]) hx hb dX0_findFarthest_88 hl (k := 4) rfl rfl (by decide) rfl (fun ls hl => ?_)
            refine lv_goto (tgt := 12) hx hb dX0_findFarthest_91 (by decide) ?_
            exact ih12 (y2_12 + 1) r1_12 r2_12 _ _ ls hw hP hD hS (lv_sub hl [3, 4, 0] rfl)
          · have hw := hw.1 c5_12
            exact hk12_85 y2_12 r1_12 r2_12 _ _ ls hw hP hD hS (lv_sub hl [2, 3, 4] rfl)
  refine kl12 _ _ ?_ ?_ n12 0 0 1 _ _ ls hw hP hD hS (lv_sub hl [1, 2, 0] rfl)
  · intro y2_12 Bu_farUpper_v_12 Bu_farLower_v_12 H locs ls hw hP hD hS hl
    exact W.vret hx hb hr (fun t ht hW => ⟨⟨(Bu_farUpper_v_12, Bu_farLower_v_12), rfl, hw, ⟨by rw [ht]; exact hP, va_K.moved hW.alike hK, hD⟩⟩, hS.F ht⟩) hS.2.2 dX0_findFarthest_94
  · intro y2_12 Bu_farUpper_v_12 Bu_farLower_v_12 H locs ls hw hP hD hS hl
    refine lv_goto (tgt := 94) hx hb dX0_findFarthest_85 (by decide) ?_
    exact W.vret hx hb hr (fun t ht hW => ⟨⟨(Bu_farUpper_v_12, Bu_farLower_v_12), rfl, hw, ⟨by rw [ht]; exact hP, va_K.moved hW.alike hK, hD⟩⟩, hS.F ht⟩) hS.2.2 dX0_findFarthest_94
set_option maxHeartbeats 4000000 in
set_option maxRecDepth 100000 in
theorem k_X1_countPairs (l : Launch) (D : va_G) (cy : Nat → ClassId) (hPo hPo_xs hPo_ys hPo_zs hPo_countUpTo : Nat) (Po_xs : Nat → Int32) (Po_ys : Nat → Int32) (Po_zs : Nat → Int32) (Po_countUpTo : Nat → Int32) (Po_count : Int32) (p1 : Int32) (sz : Nat) (Q : Int32 → Prop) (hw : wp_X1_countPairs p1 Po_xs Po_ys Po_zs Q) : Met l yX1_countPairs (wA yX1_countPairs cX1_countPairs 5 (some .int)) { frames := 2, cells := 0, slots := 0, locals := 46 } (kPc [.ref hPo, .int p1] D cy (List.flatten [wPo cy hPo hPo_xs hPo_ys hPo_zs hPo_countUpTo Po_xs Po_ys Po_zs Po_countUpTo Po_count]) sz) (kSi Q) 0 0 (fun _ => False) := by
  refine Met.ofW (cc := cX1_countPairs) (maxL := 5) (ret := (some .int)) (by decide) rfl ?_
  intro p e s m args below meth c s₁ B hml hv
  obtain ⟨rfl, hsz, hN, hP, hK, hD0⟩ := hv
  have hx := B.exec
  have hb := B.bytes
  have hr := B.returns
  have hts0 := atoms_spec (ws := wA yX1_countPairs cX1_countPairs 5 (some .int)) B.pre
  have hts := fun w (h : w ∈ wsL_law) => hts0 w (List.mem_cons_of_mem _ h)
  have hown : s.vm.findClass RX1 = some m.cls := findClass_of_methodNamed B.named
  have hlocks := B.notSynchronized
  subst hsz
  have hD := hD0
  have hl := lv_entry ([.ref hPo, .int p1]) (n := 5) (Nat.le_of_ble_eq_true rfl)
  rw [lg_entry_eq]
  generalize (lg_sl ([.ref hPo, .int p1]) ++ List.replicate (5 - (lg_sl ([.ref hPo, .int p1])).length) Slot.unset).toArray = ls at hl ⊢
  have hl : lv_has ls 5 [(0, .ref hPo), (1, .int p1)] := hl
  unfold wp_X1_countPairs at hw
  refine lv_iconst (v := 0) hx hb dX1_countPairs_0 (by decide) ?_
  refine lv_istore_n (lv' := [(2, .int 0), (0, .ref hPo), (1, .int p1)]) hx hb dX1_countPairs_1 rfl hl (by decide) rfl (fun ls hl => ?_)
  refine lv_iconst (v := 0) hx hb dX1_countPairs_2 (by decide) ?_
  refine lv_istore_n (lv' := [(3, .int 0), (2, .int 0), (0, .ref hPo), (1, .int p1)]) hx hb dX1_countPairs_3 rfl hl (by decide) rfl (fun ls hl => ?_)
  obtain ⟨n4, hw⟩ := hw
  have kl4 : ∀ (K4_45 : Int32 → Int32 → Prop) (hk4_45 : ∀ (y2_4 : Int32) (y3_4 : Int32) (ls : Array Slot), K4_45 y2_4 y3_4 → lv_has ls 5 [(0, .ref hPo), (1, .int p1), (2, .int y2_4), (3, .int y3_4)] → W p l e (headSpec (wA yX1_countPairs cX1_countPairs 5 (some .int)) { frames := 2, cells := 0, slots := 0, locals := 46 }).room s m #[.ref hPo, .int p1] below meth c s.heap [] 0 0 (MQ below (kSi Q) #[.ref hPo, .int p1] s 0 0 (fun _ => False)) (F0 m 45 ls [])) (n : Nat) (y2_4 : Int32) (y3_4 : Int32) (ls : Array Slot), wp_X1_countPairs_L4 p1 Po_xs Po_ys Po_zs K4_45 n y2_4 y3_4 → lv_has ls 5 [(0, .ref hPo), (1, .int p1), (2, .int y2_4), (3, .int y3_4)] → W p l e (headSpec (wA yX1_countPairs cX1_countPairs 5 (some .int)) { frames := 2, cells := 0, slots := 0, locals := 46 }).room s m #[.ref hPo, .int p1] below meth c s.heap [] 0 0 (MQ below (kSi Q) #[.ref hPo, .int p1] s 0 0 (fun _ => False)) (F0 m 4 ls []) := by
    intro K4_45 hk4_45 n
    induction n with
    | zero =>
      intro y2_4 y3_4 ls hw
      exact hw.elim
    | succ n ih4 =>
      intro y2_4 y3_4 ls hw hl
      unfold wp_X1_countPairs_L4 at hw
      refine lv_iload_n hx hb dX1_countPairs_4 rfl (lv_at hl 3 rfl) ?_
      refine lv_iload_n hx hb dX1_countPairs_5 rfl (lv_at hl 1 rfl) ?_
      refine lv_icmp_ge (tgt := 45) hx hb dX1_countPairs_6 (by decide) (fun c2_4 => ?_) (fun c2_4 => ?_)
      · have hw := hw.1 c2_4
        exact hk4_45 y2_4 y3_4 ls hw (lv_sub hl [0, 1, 2, 3] rfl)
      · have hw := hw.2 c2_4
        refine lv_iload_n hx hb dX1_countPairs_9 rfl (lv_at hl 3 rfl) ?_
        refine lv_iconst (v := 1) hx hb dX1_countPairs_10 (by decide) ?_
        refine lv_iadd hx hb dX1_countPairs_11 ?_
        refine lv_topi (fun x1_4 ex1_4 => ?_)
        have hw := hw x1_4 ex1_4
        refine lv_istore (lv' := [(4, .int x1_4), (0, .ref hPo), (1, .int p1), (2, .int y2_4), (3, .int y3_4)]) hx hb dX1_countPairs_12 hl (by decide) rfl (fun ls hl => ?_)
        obtain ⟨n14, hw⟩ := hw
        have kl14 : ∀ (K14_39 : Int32 → Int32 → Prop) (hk14_39 : ∀ (y2_14 : Int32) (y4_14 : Int32) (ls : Array Slot), K14_39 y2_14 y4_14 → lv_has ls 5 [(0, .ref hPo), (1, .int p1), (2, .int y2_14), (3, .int y3_4), (4, .int y4_14)] → W p l e (headSpec (wA yX1_countPairs cX1_countPairs 5 (some .int)) { frames := 2, cells := 0, slots := 0, locals := 46 }).room s m #[.ref hPo, .int p1] below meth c s.heap [] 0 0 (MQ below (kSi Q) #[.ref hPo, .int p1] s 0 0 (fun _ => False)) (F0 m 39 ls [])) (n : Nat) (y2_14 : Int32) (y4_14 : Int32) (ls : Array Slot), wp_X1_countPairs_L14 p1 Po_xs Po_ys Po_zs y3_4 K14_39 n y2_14 y4_14 → lv_has ls 5 [(0, .ref hPo), (1, .int p1), (2, .int y2_14), (3, .int y3_4), (4, .int y4_14)] → W p l e (headSpec (wA yX1_countPairs cX1_countPairs 5 (some .int)) { frames := 2, cells := 0, slots := 0, locals := 46 }).room s m #[.ref hPo, .int p1] below meth c s.heap [] 0 0 (MQ below (kSi Q) #[.ref hPo, .int p1] s 0 0 (fun _ => False)) (F0 m 14 ls []) := by
          intro K14_39 hk14_39 n
          induction n with
          | zero =>
            intro y2_14 y4_14 ls hw
            exact hw.elim
          | succ n ih14 =>
            intro y2_14 y4_14 ls hw hl
            unfold wp_X1_countPairs_L14 at hw
            refine lv_iload hx hb dX1_countPairs_14 (lv_at hl 4 rfl) ?_
            refine lv_iload_n hx hb dX1_countPairs_16 rfl (lv_at hl 1 rfl) ?_
            refine lv_icmp_ge (tgt := 39) hx hb dX1_countPairs_17 (by decide) (fun c3_14 => ?_) (fun c3_14 => ?_)
            · have hw := hw.1 c3_14
              exact hk14_39 y2_14 y4_14 ls hw (lv_sub hl [0, 1, 2, 3, 4] rfl)
            · have hw := hw.2 c3_14
              refine lv_aload_n hx hb dX1_countPairs_20 rfl (lv_at hl 0 rfl) ?_
              refine lv_iload_n hx hb dX1_countPairs_21 rfl (lv_at hl 3 rfl) ?_
              refine lv_iload hx hb dX1_countPairs_22 (lv_at hl 4 rfl) ?_
              refine kc_i (va_runV (As := [.int y3_4, .int y4_14]) (rest := []) ⟨hx, hb, hml, hown, hts⟩ (k_X2_areSquare l D cy hPo hPo_xs hPo_ys hPo_zs hPo_countUpTo Po_xs Po_ys Po_zs Po_countUpTo Po_count y3_4 y4_14 _ _ hw) (cwV 2 hts (gV mw_4_19 mw_4_20 mw_4_21 mw_1_18 mw_4_22) rfl rfl rfl (by decide +kernel) ⟨Nat.le_of_ble_eq_true rfl, Nat.le_of_ble_eq_true rfl⟩) (fPreV hN hK hP hD [0] rfl rfl 0 (ci := 2) rfl rfl rfl _) rfl rfl hl.1 rfl (lv_room (Nat.le_of_ble_eq_true rfl)) dX1_countPairs_24 ⟨Nat.zero_le _, Nat.zero_le _⟩) (fun r1_14 hw => ?_)
              refine lv_if_eq (tgt := 33) hx hb dX1_countPairs_27 (by decide) (fun c2_14 => ?_) (fun c2_14 => ?_)
              · have hw := hw.1 c2_14
                refine lv_iinc (v := y4_14 + 1) (lv' := [(4, .int (y4_14 + 1)), (0, .ref hPo), (1, .int p1), (2, .int y2_14), (3, .int y3_4)]) hx hb dX1_countPairs_33 hl (k := 4) rfl rfl (by decide) rfl (fun ls hl => ?_)
                refine lv_goto (tgt := 14) hx hb dX1_countPairs_36 (by decide) ?_
                exact ih14 y2_14 (y4_14 + 1) ls hw (lv_sub hl [1, 2, 3, 4, 0] rfl)
              · have hw := hw.2 c2_14
                refine lv_iinc (v := y2_14 + 1) (lv' := [(2, .int (y2_14 + 1)), (0, .ref hPo), (1, .int p1), (3, .int y3_4), (4, .int y4_14)]) hx hb dX1_countPairs_30 hl (k := 2) rfl rfl (by decide) rfl (fun ls hl => ?_)
                refine lv_iinc (v := y4_14 + 1) (lv' := [(4, .int (y4_14 + 1)), (2, .int (y2_14 + 1)), (0, .ref hPo), (1, .int p1), (3, .int y3_4)]) hx hb dX1_countPairs_33 hl (k := 4) rfl rfl (by decide) rfl (fun ls hl => ?_)
                refine lv_goto (tgt := 14) hx hb dX1_countPairs_36 (by decide) ?_
                exact ih14 (y2_14 + 1) (y4_14 + 1) ls hw (lv_sub hl [2, 3, 1, 4, 0] rfl)
        refine kl14 _ ?_ n14 y2_4 x1_4 ls hw (lv_sub hl [1, 2, 3, 4, 0] rfl)
        · intro y2_14 y4_14 ls hw hl
          refine lv_iinc (v := y3_4 + 1) (lv' := [(3, .int (y3_4 + 1)), (0, .ref hPo), (1, .int p1), (2, .int y2_14), (4, .int y4_14)]) hx hb dX1_countPairs_39 hl (k := 3) rfl rfl (by decide) rfl (fun ls hl => ?_)
          refine lv_goto (tgt := 4) hx hb dX1_countPairs_42 (by decide) ?_
          exact ih4 y2_14 (y3_4 + 1) ls hw (lv_sub hl [1, 2, 3, 0] rfl)
  refine kl4 _ ?_ n4 0 0 ls hw (lv_sub hl [2, 3, 1, 0] rfl)
  · intro y2_4 y3_4 ls hw hl
    refine lv_iload_n hx hb dX1_countPairs_45 rfl (lv_at hl 2 rfl) ?_
    exact W.iret (v := y2_4) hx hb hr (fun t ht hW => ⟨y2_4, rfl, hw, ht⟩) (fun q h => by cases h) dX1_countPairs_46
set_option maxHeartbeats 4000000 in
set_option maxRecDepth 100000 in
theorem k_X1_fillPairs (l : Launch) (D : va_G) (cy : Nat → ClassId) (hPl hPl_lesser hPl_greater hPl_axisOf hPl_axisXs hPl_axisYs hPl_axisZs hPl_axisSquares hPl_poleSigns hPo hPo_xs hPo_ys hPo_zs hPo_countUpTo np nq : Nat) (Pl_poleCount : Int32) (Pl_pairCount : Int32) (Pl_lesser : Nat → Int32) (Pl_greater : Nat → Int32) (Pl_axisOf : Nat → Int32) (Pl_axisXs : Nat → Int32) (Pl_axisYs : Nat → Int32) (Pl_axisZs : Nat → Int32) (Pl_axisSquares : Nat → Int32) (Pl_axisCount : Int32) (Pl_poleSigns : Nat → Int32) (Po_xs : Nat → Int32) (Po_ys : Nat → Int32) (Po_zs : Nat → Int32) (Po_countUpTo : Nat → Int32) (Po_count : Int32) (sz : Nat) (Q : (Nat → Int32) → (Nat → Int32) → Prop) (hw : wp_X1_fillPairs np nq Pl_poleCount Pl_pairCount Pl_lesser Pl_greater Po_xs Po_ys Po_zs Q) : Met l yX1_fillPairs (wA yX1_fillPairs cX1_fillPairs 4 none) { frames := 2, cells := 0, slots := 0, locals := 46 } (kPc [.ref hPl] D cy (List.flatten [wPl cy hPl hPl_lesser hPl_greater hPl_axisOf hPl_axisXs hPl_axisYs hPl_axisZs hPl_axisSquares hPl_poleSigns hPo np nq Pl_poleCount Pl_pairCount Pl_lesser Pl_greater Pl_axisOf Pl_axisXs Pl_axisYs Pl_axisZs Pl_axisSquares Pl_axisCount Pl_poleSigns, wPo cy hPo hPo_xs hPo_ys hPo_zs hPo_countUpTo Po_xs Po_ys Po_zs Po_countUpTo Po_count]) sz) (va_Qv (fun (u : (Nat → Int32) × (Nat → Int32)) => Q u.1 u.2) (fun u t => kB D cy (va_A (List.flatten [wPl cy hPl hPl_lesser hPl_greater hPl_axisOf hPl_axisXs hPl_axisYs hPl_axisZs hPl_axisSquares hPl_poleSigns hPo np nq Pl_poleCount Pl_pairCount Pl_lesser Pl_greater Pl_axisOf Pl_axisXs Pl_axisYs Pl_axisZs Pl_axisSquares Pl_axisCount Pl_poleSigns, wPo cy hPo hPo_xs hPo_ys hPo_zs hPo_countUpTo Po_xs Po_ys Po_zs Po_countUpTo Po_count]) sz) (List.flatten [wPl cy hPl hPl_lesser hPl_greater hPl_axisOf hPl_axisXs hPl_axisYs hPl_axisZs hPl_axisSquares hPl_poleSigns hPo np nq Pl_poleCount Pl_pairCount u.1 u.2 Pl_axisOf Pl_axisXs Pl_axisYs Pl_axisZs Pl_axisSquares Pl_axisCount Pl_poleSigns, wPo cy hPo hPo_xs hPo_ys hPo_zs hPo_countUpTo Po_xs Po_ys Po_zs Po_countUpTo Po_count]) t) (va_A (List.flatten [wPl cy hPl hPl_lesser hPl_greater hPl_axisOf hPl_axisXs hPl_axisYs hPl_axisZs hPl_axisSquares hPl_poleSigns hPo np nq Pl_poleCount Pl_pairCount Pl_lesser Pl_greater Pl_axisOf Pl_axisXs Pl_axisYs Pl_axisZs Pl_axisSquares Pl_axisCount Pl_poleSigns, wPo cy hPo hPo_xs hPo_ys hPo_zs hPo_countUpTo Po_xs Po_ys Po_zs Po_countUpTo Po_count]) sz)) 0 0 (va_A (List.flatten [wPl cy hPl hPl_lesser hPl_greater hPl_axisOf hPl_axisXs hPl_axisYs hPl_axisZs hPl_axisSquares hPl_poleSigns hPo np nq Pl_poleCount Pl_pairCount Pl_lesser Pl_greater Pl_axisOf Pl_axisXs Pl_axisYs Pl_axisZs Pl_axisSquares Pl_axisCount Pl_poleSigns, wPo cy hPo hPo_xs hPo_ys hPo_zs hPo_countUpTo Po_xs Po_ys Po_zs Po_countUpTo Po_count]) sz) := by
  refine Met.ofW (cc := cX1_fillPairs) (maxL := 4) (ret := none) (by decide) rfl ?_
  intro p e s m args below meth c s₁ B hml hv
  obtain ⟨rfl, hsz, hN, hP, hK, hD0⟩ := hv
  have hx := B.exec
  have hb := B.bytes
  have hr := B.returns
  have hts0 := atoms_spec (ws := wA yX1_fillPairs cX1_fillPairs 4 none) B.pre
  have hts := fun w (h : w ∈ wsL_law) => hts0 w (List.mem_cons_of_mem _ h)
  have hown : s.vm.findClass RX1 = some m.cls := findClass_of_methodNamed B.named
  have hlocks := B.notSynchronized
  subst hsz
  have hD := hD0.self (sz := s.heap.size)
  generalize hAe : va_A (List.flatten [wPl cy hPl hPl_lesser hPl_greater hPl_axisOf hPl_axisXs hPl_axisYs hPl_axisZs hPl_axisSquares hPl_poleSigns hPo np nq Pl_poleCount Pl_pairCount Pl_lesser Pl_greater Pl_axisOf Pl_axisXs Pl_axisYs Pl_axisZs Pl_axisSquares Pl_axisCount Pl_poleSigns, wPo cy hPo hPo_xs hPo_ys hPo_zs hPo_countUpTo Po_xs Po_ys Po_zs Po_countUpTo Po_count]) s.heap.size = A at hD ⊢
  have hA : ∀ q : Nat, s.heap.size ≤ q → A q := fun q h => by rw [← hAe]; exact Or.inr h
  have hS : va_S A s.heap s.heap [] := va_S.rf
  have hP : va_P D vwCl (List.flatten [wPl cy hPl hPl_lesser hPl_greater hPl_axisOf hPl_axisXs hPl_axisYs hPl_axisZs hPl_axisSquares hPl_poleSigns hPo np nq Pl_poleCount Pl_pairCount Pl_lesser Pl_greater Pl_axisOf Pl_axisXs Pl_axisYs Pl_axisZs Pl_axisSquares Pl_axisCount Pl_poleSigns, wPo cy hPo hPo_xs hPo_ys hPo_zs hPo_countUpTo Po_xs Po_ys Po_zs Po_countUpTo Po_count]) s.heap := hP
  have hl := lv_entry ([.ref hPl]) (n := 4) (Nat.le_of_ble_eq_true rfl)
  rw [lg_entry_eq]
  generalize (lg_sl ([.ref hPl]) ++ List.replicate (4 - (lg_sl ([.ref hPl])).length) Slot.unset).toArray = ls at hl ⊢
  have hl : lv_has ls 4 [(0, .ref hPl)] := hl
  unfold wp_X1_fillPairs at hw
  refine lv_iconst (v := 0) hx hb dX1_fillPairs_0 (by decide) ?_
  refine lv_istore_n (lv' := [(1, .int 0), (0, .ref hPl)]) hx hb dX1_fillPairs_1 rfl hl (by decide) rfl (fun ls hl => ?_)
  refine lv_iconst (v := 0) hx hb dX1_fillPairs_2 (by decide) ?_
  refine lv_istore_n (lv' := [(2, .int 0), (1, .int 0), (0, .ref hPl)]) hx hb dX1_fillPairs_3 rfl hl (by decide) rfl (fun ls hl => ?_)
  obtain ⟨n4, hw⟩ := hw
  have kl4 : ∀ (K4_73 : Int32 → Int32 → (Nat → Int32) → (Nat → Int32) → Prop) (hk4_73 : ∀ (y1_4 : Int32) (y2_4 : Int32) (Pl_lesser_v_4 : Nat → Int32) (Pl_greater_v_4 : Nat → Int32) (H : Heap) (locs : List Loc) (ls : Array Slot), K4_73 y1_4 y2_4 Pl_lesser_v_4 Pl_greater_v_4 → va_P D vwCl (List.flatten [wPl cy hPl hPl_lesser hPl_greater hPl_axisOf hPl_axisXs hPl_axisYs hPl_axisZs hPl_axisSquares hPl_poleSigns hPo np nq Pl_poleCount Pl_pairCount Pl_lesser_v_4 Pl_greater_v_4 Pl_axisOf Pl_axisXs Pl_axisYs Pl_axisZs Pl_axisSquares Pl_axisCount Pl_poleSigns, wPo cy hPo hPo_xs hPo_ys hPo_zs hPo_countUpTo Po_xs Po_ys Po_zs Po_countUpTo Po_count]) H → va_D A (List.flatten [wPl cy hPl hPl_lesser hPl_greater hPl_axisOf hPl_axisXs hPl_axisYs hPl_axisZs hPl_axisSquares hPl_poleSigns hPo np nq Pl_poleCount Pl_pairCount Pl_lesser_v_4 Pl_greater_v_4 Pl_axisOf Pl_axisXs Pl_axisYs Pl_axisZs Pl_axisSquares Pl_axisCount Pl_poleSigns, wPo cy hPo hPo_xs hPo_ys hPo_zs hPo_countUpTo Po_xs Po_ys Po_zs Po_countUpTo Po_count]) → va_S A s.heap H locs → lv_has ls 4 [(0, .ref hPl), (1, .int y1_4), (2, .int y2_4)] → W p l e (headSpec (wA yX1_fillPairs cX1_fillPairs 4 none) { frames := 2, cells := 0, slots := 0, locals := 46 }).room s m #[.ref hPl] below meth c H locs 0 0 (MQ below (va_Qv (fun (u : (Nat → Int32) × (Nat → Int32)) => Q u.1 u.2) (fun u t => kB D cy A (List.flatten [wPl cy hPl hPl_lesser hPl_greater hPl_axisOf hPl_axisXs hPl_axisYs hPl_axisZs hPl_axisSquares hPl_poleSigns hPo np nq Pl_poleCount Pl_pairCount u.1 u.2 Pl_axisOf Pl_axisXs Pl_axisYs Pl_axisZs Pl_axisSquares Pl_axisCount Pl_poleSigns, wPo cy hPo hPo_xs hPo_ys hPo_zs hPo_countUpTo Po_xs Po_ys Po_zs Po_countUpTo Po_count]) t) A) #[.ref hPl] s 0 0 A) (F0 m 73 ls [])) (n : Nat) (y1_4 : Int32) (y2_4 : Int32) (Pl_lesser_v_4 : Nat → Int32) (Pl_greater_v_4 : Nat → Int32) (H : Heap) (locs : List Loc) (ls : Array Slot), wp_X1_fillPairs_L4 np Pl_poleCount Pl_pairCount Po_xs Po_ys Po_zs K4_73 n y1_4 y2_4 Pl_lesser_v_4 Pl_greater_v_4 → va_P D vwCl (List.flatten [wPl cy hPl hPl_lesser hPl_greater hPl_axisOf hPl_axisXs hPl_axisYs hPl_axisZs hPl_axisSquares hPl_poleSigns hPo np nq Pl_poleCount Pl_pairCount Pl_lesser_v_4 Pl_greater_v_4 Pl_axisOf Pl_axisXs Pl_axisYs Pl_axisZs Pl_axisSquares Pl_axisCount Pl_poleSigns, wPo cy hPo hPo_xs hPo_ys hPo_zs hPo_countUpTo Po_xs Po_ys Po_zs Po_countUpTo Po_count]) H → va_D A (List.flatten [wPl cy hPl hPl_lesser hPl_greater hPl_axisOf hPl_axisXs hPl_axisYs hPl_axisZs hPl_axisSquares hPl_poleSigns hPo np nq Pl_poleCount Pl_pairCount Pl_lesser_v_4 Pl_greater_v_4 Pl_axisOf Pl_axisXs Pl_axisYs Pl_axisZs Pl_axisSquares Pl_axisCount Pl_poleSigns, wPo cy hPo hPo_xs hPo_ys hPo_zs hPo_countUpTo Po_xs Po_ys Po_zs Po_countUpTo Po_count]) → va_S A s.heap H locs → lv_has ls 4 [(0, .ref hPl), (1, .int y1_4), (2, .int y2_4)] → W p l e (headSpec (wA yX1_fillPairs cX1_fillPairs 4 none) { frames := 2, cells := 0, slots := 0, locals := 46 }).room s m #[.ref hPl] below meth c H locs 0 0 (MQ below (va_Qv (fun (u : (Nat → Int32) × (Nat → Int32)) => Q u.1 u.2) (fun u t => kB D cy A (List.flatten [wPl cy hPl hPl_lesser hPl_greater hPl_axisOf hPl_axisXs hPl_axisYs hPl_axisZs hPl_axisSquares hPl_poleSigns hPo np nq Pl_poleCount Pl_pairCount u.1 u.2 Pl_axisOf Pl_axisXs Pl_axisYs Pl_axisZs Pl_axisSquares Pl_axisCount Pl_poleSigns, wPo cy hPo hPo_xs hPo_ys hPo_zs hPo_countUpTo Po_xs Po_ys Po_zs Po_countUpTo Po_count]) t) A) #[.ref hPl] s 0 0 A) (F0 m 4 ls []) := by
    intro K4_73 hk4_73 n
    induction n with
    | zero =>
      intro y1_4 y2_4 Pl_lesser_v_4 Pl_greater_v_4 H locs ls hw
      exact hw.elim
    | succ n ih4 =>
      intro y1_4 y2_4 Pl_lesser_v_4 Pl_greater_v_4 H locs ls hw hP hD hS hl
      unfold wp_X1_fillPairs_L4 at hw
      refine lv_iload_n hx hb dX1_fillPairs_4 rfl (lv_at hl 2 rfl) ?_
      refine lv_aload_n hx hb dX1_fillPairs_5 rfl (lv_at hl 0 rfl) ?_
      refine va_get (D := D) (ci := 1) (v := .int Pl_poleCount) (C := RX1) (T := TX1) (N := 12) hx hb hts inlX1 hown hK hP 0 rfl rfl 1 (by decide) (hts (.fieldLink RX1 15 "SquarePlanes$Planes" "poleCount" "I") mw_4_6) (fun _ h9 => h9) rfl dX1_fillPairs_6 ?_
      refine lv_icmp_ge (tgt := 73) hx hb dX1_fillPairs_9 (by decide) (fun c2_4 => ?_) (fun c2_4 => ?_)
      · have hw := hw.1 c2_4
        exact hk4_73 y1_4 y2_4 Pl_lesser_v_4 Pl_greater_v_4 _ _ ls hw hP hD hS (lv_sub hl [0, 1, 2] rfl)
      · have hw := hw.2 c2_4
        refine lv_iload_n hx hb dX1_fillPairs_12 rfl (lv_at hl 2 rfl) ?_
        refine lv_iconst (v := 1) hx hb dX1_fillPairs_13 (by decide) ?_
        refine lv_iadd hx hb dX1_fillPairs_14 ?_
        refine lv_topi (fun x1_4 ex1_4 => ?_)
        have hw := hw x1_4 ex1_4
        refine lv_istore_n (lv' := [(3, .int x1_4), (0, .ref hPl), (1, .int y1_4), (2, .int y2_4)]) hx hb dX1_fillPairs_15 rfl hl (by decide) rfl (fun ls hl => ?_)
        obtain ⟨n16, hw⟩ := hw
        have kl16 : ∀ (K16_67 : Int32 → Int32 → (Nat → Int32) → (Nat → Int32) → Prop) (hk16_67 : ∀ (y1_16 : Int32) (y3_16 : Int32) (Pl_lesser_v_16 : Nat → Int32) (Pl_greater_v_16 : Nat → Int32) (H : Heap) (locs : List Loc) (ls : Array Slot), K16_67 y1_16 y3_16 Pl_lesser_v_16 Pl_greater_v_16 → va_P D vwCl (List.flatten [wPl cy hPl hPl_lesser hPl_greater hPl_axisOf hPl_axisXs hPl_axisYs hPl_axisZs hPl_axisSquares hPl_poleSigns hPo np nq Pl_poleCount Pl_pairCount Pl_lesser_v_16 Pl_greater_v_16 Pl_axisOf Pl_axisXs Pl_axisYs Pl_axisZs Pl_axisSquares Pl_axisCount Pl_poleSigns, wPo cy hPo hPo_xs hPo_ys hPo_zs hPo_countUpTo Po_xs Po_ys Po_zs Po_countUpTo Po_count]) H → va_D A (List.flatten [wPl cy hPl hPl_lesser hPl_greater hPl_axisOf hPl_axisXs hPl_axisYs hPl_axisZs hPl_axisSquares hPl_poleSigns hPo np nq Pl_poleCount Pl_pairCount Pl_lesser_v_16 Pl_greater_v_16 Pl_axisOf Pl_axisXs Pl_axisYs Pl_axisZs Pl_axisSquares Pl_axisCount Pl_poleSigns, wPo cy hPo hPo_xs hPo_ys hPo_zs hPo_countUpTo Po_xs Po_ys Po_zs Po_countUpTo Po_count]) → va_S A s.heap H locs → lv_has ls 4 [(0, .ref hPl), (1, .int y1_16), (2, .int y2_4), (3, .int y3_16)] → W p l e (headSpec (wA yX1_fillPairs cX1_fillPairs 4 none) { frames := 2, cells := 0, slots := 0, locals := 46 }).room s m #[.ref hPl] below meth c H locs 0 0 (MQ below (va_Qv (fun (u : (Nat → Int32) × (Nat → Int32)) => Q u.1 u.2) (fun u t => kB D cy A (List.flatten [wPl cy hPl hPl_lesser hPl_greater hPl_axisOf hPl_axisXs hPl_axisYs hPl_axisZs hPl_axisSquares hPl_poleSigns hPo np nq Pl_poleCount Pl_pairCount u.1 u.2 Pl_axisOf Pl_axisXs Pl_axisYs Pl_axisZs Pl_axisSquares Pl_axisCount Pl_poleSigns, wPo cy hPo hPo_xs hPo_ys hPo_zs hPo_countUpTo Po_xs Po_ys Po_zs Po_countUpTo Po_count]) t) A) #[.ref hPl] s 0 0 A) (F0 m 67 ls [])) (n : Nat) (y1_16 : Int32) (y3_16 : Int32) (Pl_lesser_v_16 : Nat → Int32) (Pl_greater_v_16 : Nat → Int32) (H : Heap) (locs : List Loc) (ls : Array Slot), wp_X1_fillPairs_L16 np Pl_poleCount Pl_pairCount Po_xs Po_ys Po_zs y2_4 K16_67 n y1_16 y3_16 Pl_lesser_v_16 Pl_greater_v_16 → va_P D vwCl (List.flatten [wPl cy hPl hPl_lesser hPl_greater hPl_axisOf hPl_axisXs hPl_axisYs hPl_axisZs hPl_axisSquares hPl_poleSigns hPo np nq Pl_poleCount Pl_pairCount Pl_lesser_v_16 Pl_greater_v_16 Pl_axisOf Pl_axisXs Pl_axisYs Pl_axisZs Pl_axisSquares Pl_axisCount Pl_poleSigns, wPo cy hPo hPo_xs hPo_ys hPo_zs hPo_countUpTo Po_xs Po_ys Po_zs Po_countUpTo Po_count]) H → va_D A (List.flatten [wPl cy hPl hPl_lesser hPl_greater hPl_axisOf hPl_axisXs hPl_axisYs hPl_axisZs hPl_axisSquares hPl_poleSigns hPo np nq Pl_poleCount Pl_pairCount Pl_lesser_v_16 Pl_greater_v_16 Pl_axisOf Pl_axisXs Pl_axisYs Pl_axisZs Pl_axisSquares Pl_axisCount Pl_poleSigns, wPo cy hPo hPo_xs hPo_ys hPo_zs hPo_countUpTo Po_xs Po_ys Po_zs Po_countUpTo Po_count]) → va_S A s.heap H locs → lv_has ls 4 [(0, .ref hPl), (1, .int y1_16), (2, .int y2_4), (3, .int y3_16)] → W p l e (headSpec (wA yX1_fillPairs cX1_fillPairs 4 none) { frames := 2, cells := 0, slots := 0, locals := 46 }).room s m #[.ref hPl] below meth c H locs 0 0 (MQ below (va_Qv (fun (u : (Nat → Int32) × (Nat → Int32)) => Q u.1 u.2) (fun u t => kB D cy A (List.flatten [wPl cy hPl hPl_lesser hPl_greater hPl_axisOf hPl_axisXs hPl_axisYs hPl_axisZs hPl_axisSquares hPl_poleSigns hPo np nq Pl_poleCount Pl_pairCount u.1 u.2 Pl_axisOf Pl_axisXs Pl_axisYs Pl_axisZs Pl_axisSquares Pl_axisCount Pl_poleSigns, wPo cy hPo hPo_xs hPo_ys hPo_zs hPo_countUpTo Po_xs Po_ys Po_zs Po_countUpTo Po_count]) t) A) #[.ref hPl] s 0 0 A) (F0 m 16 ls []) := by
          intro K16_67 hk16_67 n
          induction n with
          | zero =>
            intro y1_16 y3_16 Pl_lesser_v_16 Pl_greater_v_16 H locs ls hw
            exact hw.elim
          | succ n ih16 =>
            intro y1_16 y3_16 Pl_lesser_v_16 Pl_greater_v_16 H locs ls hw hP hD hS hl
            unfold wp_X1_fillPairs_L16 at hw
            refine lv_iload_n hx hb dX1_fillPairs_16 rfl (lv_at hl 3 rfl) ?_
            refine lv_aload_n hx hb dX1_fillPairs_17 rfl (lv_at hl 0 rfl) ?_
            refine va_get (D := D) (ci := 1) (v := .int Pl_poleCount) (C := RX1) (T := TX1) (N := 12) hx hb hts inlX1 hown hK hP 0 rfl rfl 1 (by decide) (hts (.fieldLink RX1 15 "SquarePlanes$Planes" "poleCount" "I") mw_4_6) (fun _ h9 => h9) rfl dX1_fillPairs_18 ?_
            refine lv_icmp_ge (tgt := 67) hx hb dX1_fillPairs_21 (by decide) (fun c4_16 => ?_) (fun c4_16 => ?_)
            · have hw := hw.1 c4_16
              exact hk16_67 y1_16 y3_16 Pl_lesser_v_16 Pl_greater_v_16 _ _ ls hw hP hD hS (lv_sub hl [0, 1, 2, 3] rfl)
            · have hw := hw.2 c4_16
              refine lv_aload_n hx hb dX1_fillPairs_24 rfl (lv_at hl 0 rfl) ?_
              refine va_get (D := D) (ci := 1) (v := .ref hPo) (C := RX1) (T := TX1) (N := 12) hx hb hts inlX1 hown hK hP 0 rfl rfl 0 (by decide) (hts (.fieldLink RX1 9 "SquarePlanes$Planes" "poles" "LSquarePlanes$Poles;") mw_4_5) (fun _ h9 => h9) rfl dX1_fillPairs_25 ?_
              refine lv_iload_n hx hb dX1_fillPairs_28 rfl (lv_at hl 2 rfl) ?_
              refine lv_iload_n hx hb dX1_fillPairs_29 rfl (lv_at hl 3 rfl) ?_
              refine kc_i (va_runV (As := [.int y2_4, .int y3_16]) (rest := []) ⟨hx, hb, hml, hown, hts⟩ (k_X2_areSquare l D cy hPo hPo_xs hPo_ys hPo_zs hPo_countUpTo Po_xs Po_ys Po_zs Po_countUpTo Po_count y2_4 y3_16 _ _ hw) (cwV 2 hts (gV mw_4_19 mw_4_20 mw_4_21 mw_1_18 mw_4_22) rfl rfl rfl (by decide +kernel) ⟨Nat.le_of_ble_eq_true rfl, Nat.le_of_ble_eq_true rfl⟩) (fPreV hN hK hP hD [1] rfl rfl 9 (ci := 2) rfl rfl rfl _) rfl rfl hl.1 rfl (lv_room (Nat.le_of_ble_eq_true rfl)) dX1_fillPairs_30 ⟨Nat.zero_le _, Nat.zero_le _⟩) (fun r1_16 hw => ?_)
              refine lv_if_eq (tgt := 61) hx hb dX1_fillPairs_33 (by decide) (fun c3_16 => ?_) (fun c3_16 => ?_)
              · have hw := hw.1 c3_16
                refine lv_iinc (v := y3_16 + 1) (lv' := [(3, .int (y3_16 + 1)), (0, .ref hPl), (1, .int y1_16), (2, .int y2_4)]) hx hb dX1_fillPairs_61 hl (k := 3) rfl rfl (by decide) rfl (fun ls hl => ?_)
                refine lv_goto (tgt := 16) hx hb dX1_fillPairs_64 (by decide) ?_
                exact ih16 y1_16 (y3_16 + 1) Pl_lesser_v_16 Pl_greater_v_16 _ _ ls hw hP hD hS (lv_sub hl [1, 2, 3, 0] rfl)
              · have hw := hw.2 c3_16
                refine lv_iload_n hx hb dX1_fillPairs_36 rfl (lv_at hl 1 rfl) ?_
                refine lv_aload_n hx hb dX1_fillPairs_37 rfl (lv_at hl 0 rfl) ?_
                refine va_get (D := D) (ci := 1) (v := .int Pl_pairCount) (C := RX1) (T := TX1) (N := 12) hx hb hts inlX1 hown hK hP 0 rfl rfl 2 (by decide) (hts (.fieldLink RX1 23 "SquarePlanes$Planes" "pairCount" "I") mw_4_7) (fun _ h9 => h9) rfl dX1_fillPairs_38 ?_
                refine lv_icmp_ge (tgt := 61) hx hb dX1_fillPairs_41 (by decide) (fun c2_16 => ?_) (fun c2_16 => ?_)
                · have hw := hw.1 c2_16
                  refine lv_iinc (v := y3_16 + 1) (lv' := [(3, .int (y3_16 + 1)), (0, .ref hPl), (1, .int y1_16), (2, .int y2_4)]) hx hb dX1_fillPairs_61 hl (k := 3) rfl rfl (by decide) rfl (fun ls hl => ?_)
                  refine lv_goto (tgt := 16) hx hb dX1_fillPairs_64 (by decide) ?_
                  exact ih16 y1_16 (y3_16 + 1) Pl_lesser_v_16 Pl_greater_v_16 _ _ ls hw hP hD hS (lv_sub hl [1, 2, 3, 0] rfl)
                · have hw := hw.2 c2_16
                  refine lv_aload_n hx hb dX1_fillPairs_44 rfl (lv_at hl 0 rfl) ?_
                  refine va_get (D := D) (ci := 1) (v := .ref hPl_lesser) (C := RX1) (T := TX1) (N := 12) hx hb hts inlX1 hown hK hP 0 rfl rfl 3 (by decide) (hts (.fieldLink RX1 26 "SquarePlanes$Planes" "lesser" "[I") mw_4_8) (fun _ h9 => h9) rfl dX1_fillPairs_45 ?_
                  refine lv_iload_n hx hb dX1_fillPairs_48 rfl (lv_at hl 1 rfl) ?_
                  refine lv_iload_n hx hb dX1_fillPairs_49 rfl (lv_at hl 2 rfl) ?_
                  refine va_iast hx hb hK hP hD hS 1 0 rfl rfl hw.1 dX1_fillPairs_50 (fun H locs hP hD hS => ?_)
                  have hw := hw.2
                  have hP : va_P D vwCl (List.flatten [wPl cy hPl hPl_lesser hPl_greater hPl_axisOf hPl_axisXs hPl_axisYs hPl_axisZs hPl_axisSquares hPl_poleSigns hPo np nq Pl_poleCount Pl_pairCount (upd Pl_lesser_v_16 y1_16.toNatClampNeg y2_4) Pl_greater_v_16 Pl_axisOf Pl_axisXs Pl_axisYs Pl_axisZs Pl_axisSquares Pl_axisCount Pl_poleSigns, wPo cy hPo hPo_xs hPo_ys hPo_zs hPo_countUpTo Po_xs Po_ys Po_zs Po_countUpTo Po_count]) H := hP
                  have hD : va_D A (List.flatten [wPl cy hPl hPl_lesser hPl_greater hPl_axisOf hPl_axisXs hPl_axisYs hPl_axisZs hPl_axisSquares hPl_poleSigns hPo np nq Pl_poleCount Pl_pairCount (upd Pl_lesser_v_16 y1_16.toNatClampNeg y2_4) Pl_greater_v_16 Pl_axisOf Pl_axisXs Pl_axisYs Pl_axisZs Pl_axisSquares Pl_axisCount Pl_poleSigns, wPo cy hPo hPo_xs hPo_ys hPo_zs hPo_countUpTo Po_xs Po_ys Po_zs Po_countUpTo Po_count]) := hD
                  refine lv_aload_n hx hb dX1_fillPairs_51 rfl (lv_at hl 0 rfl) ?_
                  refine va_get (D := D) (ci := 1) (v := .ref hPl_greater) (C := RX1) (T := TX1) (N := 12) hx hb hts inlX1 hown hK hP 0 rfl rfl 4 (by decide) (hts (.fieldLink RX1 30 "SquarePlanes$Planes" "greater" "[I") mw_4_9) (fun _ h9 => h9) rfl dX1_fillPairs_52 ?_
                  refine lv_iload_n hx hb dX1_fillPairs_55 rfl (lv_at hl 1 rfl) ?_
                  refine lv_iload_n hx hb dX1_fillPairs_56 rfl (lv_at hl 3 rfl) ?_
                  refine va_iast hx hb hK hP hD hS 2 0 rfl rfl hw.1 dX1_fillPairs_57 (fun H locs hP hD hS => ?_)
                  have hw := hw.2
                  have hP : va_P D vwCl (List.flatten [wPl cy hPl hPl_lesser hPl_greater hPl_axisOf hPl_axisXs hPl_axisYs hPl_axisZs hPl_axisSquares hPl_poleSigns hPo np nq Pl_poleCount Pl_pairCount (upd Pl_lesser_v_16 y1_16.toNatClampNeg y2_4) (upd Pl_greater_v_16 y1_16.toNatClampNeg y3_16) Pl_axisOf Pl_axisXs Pl_axisYs Pl_axisZs Pl_axisSquares Pl_axisCount Pl_poleSigns, wPo cy hPo hPo_xs hPo_ys hPo_zs hPo_countUpTo Po_xs Po_ys Po_zs Po_countUpTo Po_count]) H := hP
                  have hD : va_D A (List.flatten [wPl cy hPl hPl_lesser hPl_greater hPl_axisOf hPl_axisXs hPl_axisYs hPl_axisZs hPl_axisSquares hPl_poleSigns hPo np nq Pl_poleCount Pl_pairCount (upd Pl_lesser_v_16 y1_16.toNatClampNeg y2_4) (upd Pl_greater_v_16 y1_16.toNatClampNeg y3_16) Pl_axisOf Pl_axisXs Pl_axisYs Pl_axisZs Pl_axisSquares Pl_axisCount Pl_poleSigns, wPo cy hPo hPo_xs hPo_ys hPo_zs hPo_countUpTo Po_xs Po_ys Po_zs Po_countUpTo Po_count]) := hD
                  refine lv_iinc (v := y1_16 + 1) (lv' := [(1, .int (y1_16 + 1)), (0, .ref hPl), (2, .int y2_4), (3, .int y3_16)]) hx hb dX1_fillPairs_58 hl (k := 1) rfl rfl (by decide) rfl (fun ls hl => ?_)
                  refine lv_iinc (v := y3_16 + 1) (lv' := [(3, .int (y3_16 + 1)), (1, .int (y1_16 + 1)), (0, .ref hPl), (2, .int y2_4)]) hx hb dX1_fillPairs_61 hl (k := 3) rfl rfl (by decide) rfl (fun ls hl => ?_)
                  refine lv_goto (tgt := 16) hx hb dX1_fillPairs_64 (by decide) ?_
                  exact ih16 (y1_16 + 1) (y3_16 + 1) (upd Pl_lesser_v_16 y1_16.toNatClampNeg y2_4) (upd Pl_greater_v_16 y1_16.toNatClampNeg y3_16) _ _ ls hw hP hD hS (lv_sub hl [2, 1, 3, 0] rfl)
        refine kl16 _ ?_ n16 y1_4 x1_4 Pl_lesser_v_4 Pl_greater_v_4 _ _ ls hw hP hD hS (lv_sub hl [1, 2, 3, 0] rfl)
        · intro y1_16 y3_16 Pl_lesser_v_16 Pl_greater_v_16 H locs ls hw hP hD hS hl
          refine lv_iinc (v := y2_4 + 1) (lv' := [(2, .int (y2_4 + 1)), (0, .ref hPl), (1, .int y1_16), (3, .int y3_16)]) hx hb dX1_fillPairs_67 hl (k := 2) rfl rfl (by decide) rfl (fun ls hl => ?_)
          refine lv_goto (tgt := 4) hx hb dX1_fillPairs_70 (by decide) ?_
          exact ih4 y1_16 (y2_4 + 1) Pl_lesser_v_16 Pl_greater_v_16 _ _ ls hw hP hD hS (lv_sub hl [1, 2, 0] rfl)
  refine kl4 _ ?_ n4 0 0 Pl_lesser Pl_greater _ _ ls hw hP hD hS (lv_sub hl [2, 1, 0] rfl)
  · intro y1_4 y2_4 Pl_lesser_v_4 Pl_greater_v_4 H locs ls hw hP hD hS hl
    exact W.vret hx hb hr (fun t ht hW => ⟨⟨(Pl_lesser_v_4, Pl_greater_v_4), rfl, hw, ⟨by rw [ht]; exact hP, va_K.moved hW.alike hK, hD⟩⟩, hS.F ht⟩) hS.2.2 dX1_fillPairs_73
set_option maxHeartbeats 4000000 in
set_option maxRecDepth 100000 in
theorem k_X1_axisNumber (l : Launch) (D : va_G) (cy : Nat → ClassId) (hPl hPl_lesser hPl_greater hPl_axisOf hPl_axisXs hPl_axisYs hPl_axisZs hPl_axisSquares hPl_poleSigns hPo hPo_xs hPo_ys hPo_zs hPo_countUpTo np nq : Nat) (Pl_poleCount : Int32) (Pl_pairCount : Int32) (Pl_lesser : Nat → Int32) (Pl_greater : Nat → Int32) (Pl_axisOf : Nat → Int32) (Pl_axisXs : Nat → Int32) (Pl_axisYs : Nat → Int32) (Pl_axisZs : Nat → Int32) (Pl_axisSquares : Nat → Int32) (Pl_axisCount : Int32) (Pl_poleSigns : Nat → Int32) (Po_xs : Nat → Int32) (Po_ys : Nat → Int32) (Po_zs : Nat → Int32) (Po_countUpTo : Nat → Int32) (Po_count : Int32) (p0 : Int32) (p1 : Int32) (sz : Nat) (Q : Int32 → (Nat → Int32) → (Nat → Int32) → (Nat → Int32) → (Nat → Int32) → Int32 → Prop) (hw : wp_X1_axisNumber p0 p1 np nq Pl_pairCount Pl_axisXs Pl_axisYs Pl_axisZs Pl_axisSquares Pl_axisCount Po_xs Po_ys Po_zs Q) : Met l yX1_axisNumber (wA yX1_axisNumber cX1_axisNumber 7 (some .int)) { frames := 3, cells := 0, slots := 0, locals := 70 } (kPc [.ref hPl, .int p0, .int p1] D cy (List.flatten [wPl cy hPl hPl_lesser hPl_greater hPl_axisOf hPl_axisXs hPl_axisYs hPl_axisZs hPl_axisSquares hPl_poleSigns hPo np nq Pl_poleCount Pl_pairCount Pl_lesser Pl_greater Pl_axisOf Pl_axisXs Pl_axisYs Pl_axisZs Pl_axisSquares Pl_axisCount Pl_poleSigns, wPo cy hPo hPo_xs hPo_ys hPo_zs hPo_countUpTo Po_xs Po_ys Po_zs Po_countUpTo Po_count]) sz) (va_Qi (fun (r : Int32) (u : (Nat → Int32) × (Nat → Int32) × (Nat → Int32) × (Nat → Int32) × Int32) => Q r u.1 u.2.1 u.2.2.1 u.2.2.2.1 u.2.2.2.2) (fun u t => kB D cy (va_A (List.flatten [wPl cy hPl hPl_lesser hPl_greater hPl_axisOf hPl_axisXs hPl_axisYs hPl_axisZs hPl_axisSquares hPl_poleSigns hPo np nq Pl_poleCount Pl_pairCount Pl_lesser Pl_greater Pl_axisOf Pl_axisXs Pl_axisYs Pl_axisZs Pl_axisSquares Pl_axisCount Pl_poleSigns, wPo cy hPo hPo_xs hPo_ys hPo_zs hPo_countUpTo Po_xs Po_ys Po_zs Po_countUpTo Po_count]) sz) (List.flatten [wPl cy hPl hPl_lesser hPl_greater hPl_axisOf hPl_axisXs hPl_axisYs hPl_axisZs hPl_axisSquares hPl_poleSigns hPo np nq Pl_poleCount Pl_pairCount Pl_lesser Pl_greater Pl_axisOf u.1 u.2.1 u.2.2.1 u.2.2.2.1 u.2.2.2.2 Pl_poleSigns, wPo cy hPo hPo_xs hPo_ys hPo_zs hPo_countUpTo Po_xs Po_ys Po_zs Po_countUpTo Po_count]) t) (va_A (List.flatten [wPl cy hPl hPl_lesser hPl_greater hPl_axisOf hPl_axisXs hPl_axisYs hPl_axisZs hPl_axisSquares hPl_poleSigns hPo np nq Pl_poleCount Pl_pairCount Pl_lesser Pl_greater Pl_axisOf Pl_axisXs Pl_axisYs Pl_axisZs Pl_axisSquares Pl_axisCount Pl_poleSigns, wPo cy hPo hPo_xs hPo_ys hPo_zs hPo_countUpTo Po_xs Po_ys Po_zs Po_countUpTo Po_count]) sz)) 0 0 (va_A (List.flatten [wPl cy hPl hPl_lesser hPl_greater hPl_axisOf hPl_axisXs hPl_axisYs hPl_axisZs hPl_axisSquares hPl_poleSigns hPo np nq Pl_poleCount Pl_pairCount Pl_lesser Pl_greater Pl_axisOf Pl_axisXs Pl_axisYs Pl_axisZs Pl_axisSquares Pl_axisCount Pl_poleSigns, wPo cy hPo hPo_xs hPo_ys hPo_zs hPo_countUpTo Po_xs Po_ys Po_zs Po_countUpTo Po_count]) sz) := by
  refine Met.ofW (cc := cX1_axisNumber) (maxL := 7) (ret := (some .int)) (by decide) rfl ?_
  intro p e s m args below meth c s₁ B hml hv
  obtain ⟨rfl, hsz, hN, hP, hK, hD0⟩ := hv
  have hx := B.exec
  have hb := B.bytes
  have hr := B.returns
  have hts0 := atoms_spec (ws := wA yX1_axisNumber cX1_axisNumber 7 (some .int)) B.pre
  have hts := fun w (h : w ∈ wsL_law) => hts0 w (List.mem_cons_of_mem _ h)
  have hown : s.vm.findClass RX1 = some m.cls := findClass_of_methodNamed B.named
  have hlocks := B.notSynchronized
  subst hsz
  have hD := hD0.self (sz := s.heap.size)
  generalize hAe : va_A (List.flatten [wPl cy hPl hPl_lesser hPl_greater hPl_axisOf hPl_axisXs hPl_axisYs hPl_axisZs hPl_axisSquares hPl_poleSigns hPo np nq Pl_poleCount Pl_pairCount Pl_lesser Pl_greater Pl_axisOf Pl_axisXs Pl_axisYs Pl_axisZs Pl_axisSquares Pl_axisCount Pl_poleSigns, wPo cy hPo hPo_xs hPo_ys hPo_zs hPo_countUpTo Po_xs Po_ys Po_zs Po_countUpTo Po_count]) s.heap.size = A at hD ⊢
  have hA : ∀ q : Nat, s.heap.size ≤ q → A q := fun q h => by rw [← hAe]; exact Or.inr h
  have hS : va_S A s.heap s.heap [] := va_S.rf
  have hP : va_P D vwCl (List.flatten [wPl cy hPl hPl_lesser hPl_greater hPl_axisOf hPl_axisXs hPl_axisYs hPl_axisZs hPl_axisSquares hPl_poleSigns hPo np nq Pl_poleCount Pl_pairCount Pl_lesser Pl_greater Pl_axisOf Pl_axisXs Pl_axisYs Pl_axisZs Pl_axisSquares Pl_axisCount Pl_poleSigns, wPo cy hPo hPo_xs hPo_ys hPo_zs hPo_countUpTo Po_xs Po_ys Po_zs Po_countUpTo Po_count]) s.heap := hP
  have hl := lv_entry ([.ref hPl, .int p0, .int p1]) (n := 7) (Nat.le_of_ble_eq_true rfl)
  rw [lg_entry_eq]
  generalize (lg_sl ([.ref hPl, .int p0, .int p1]) ++ List.replicate (7 - (lg_sl ([.ref hPl, .int p0, .int p1])).length) Slot.unset).toArray = ls at hl ⊢
  have hl : lv_has ls 7 [(0, .ref hPl), (1, .int p0), (2, .int p1)] := hl
  unfold wp_X1_axisNumber at hw
  refine lv_aload_n hx hb dX1_axisNumber_0 rfl (lv_at hl 0 rfl) ?_
  refine va_get (D := D) (ci := 1) (v := .ref hPo) (C := RX1) (T := TX1) (N := 12) hx hb hts inlX1 hown hK hP 0 rfl rfl 0 (by decide) (hts (.fieldLink RX1 9 "SquarePlanes$Planes" "poles" "LSquarePlanes$Poles;") mw_4_5) (fun _ h9 => h9) rfl dX1_axisNumber_1 ?_
  refine va_get (D := D) (ci := 2) (v := .ref hPo_ys) (C := RX2) (T := TX2) (N := 5) hx hb hts inlX2 hown hK hP 9 rfl rfl 1 (by decide) (hts (.fieldLink RX1 64 "SquarePlanes$Poles" "ys" "[I") mw_5_11) (fun _ h9 => h9) rfl dX1_axisNumber_4 ?_
  refine lv_iload_n hx hb dX1_axisNumber_7 rfl (lv_at hl 1 rfl) ?_
  refine va_iald hx hb hK hP 11 0 rfl rfl hw.1 dX1_axisNumber_8 ?_
  have hw := hw.2
  refine lv_aload_n hx hb dX1_axisNumber_9 rfl (lv_at hl 0 rfl) ?_
  refine va_get (D := D) (ci := 1) (v := .ref hPo) (C := RX1) (T := TX1) (N := 12) hx hb hts inlX1 hown hK hP 0 rfl rfl 0 (by decide) (hts (.fieldLink RX1 9 "SquarePlanes$Planes" "poles" "LSquarePlanes$Poles;") mw_4_5) (fun _ h9 => h9) rfl dX1_axisNumber_10 ?_
  refine va_get (D := D) (ci := 2) (v := .ref hPo_zs) (C := RX2) (T := TX2) (N := 5) hx hb hts inlX2 hown hK hP 9 rfl rfl 2 (by decide) (hts (.fieldLink RX1 67 "SquarePlanes$Poles" "zs" "[I") mw_5_12) (fun _ h9 => h9) rfl dX1_axisNumber_13 ?_
  refine lv_iload_n hx hb dX1_axisNumber_16 rfl (lv_at hl 2 rfl) ?_
  refine va_iald hx hb hK hP 12 0 rfl rfl hw.1 dX1_axisNumber_17 ?_
  have hw := hw.2
  refine lv_imul hx hb dX1_axisNumber_18 ?_
  refine lv_aload_n hx hb dX1_axisNumber_19 rfl (lv_at hl 0 rfl) ?_
  refine va_get (D := D) (ci := 1) (v := .ref hPo) (C := RX1) (T := TX1) (N := 12) hx hb hts inlX1 hown hK hP 0 rfl rfl 0 (by decide) (hts (.fieldLink RX1 9 "SquarePlanes$Planes" "poles" "LSquarePlanes$Poles;") mw_4_5) (fun _ h9 => h9) rfl dX1_axisNumber_20 ?_
  refine va_get (D := D) (ci := 2) (v := .ref hPo_zs) (C := RX2) (T := TX2) (N := 5) hx hb hts inlX2 hown hK hP 9 rfl rfl 2 (by decide) (hts (.fieldLink RX1 67 "SquarePlanes$Poles" "zs" "[I") mw_5_12) (fun _ h9 => h9) rfl dX1_axisNumber_23 ?_
  refine lv_iload_n hx hb dX1_axisNumber_26 rfl (lv_at hl 1 rfl) ?_
  refine va_iald hx hb hK hP 12 0 rfl rfl hw.1 dX1_axisNumber_27 ?_
  have hw := hw.2
  refine lv_aload_n hx hb dX1_axisNumber_28 rfl (lv_at hl 0 rfl) ?_
  refine va_get (D := D) (ci := 1) (v := .ref hPo) (C := RX1) (T := TX1) (N := 12) hx hb hts inlX1 hown hK hP 0 rfl rfl 0 (by decide) (hts (.fieldLink RX1 9 "SquarePlanes$Planes" "poles" "LSquarePlanes$Poles;") mw_4_5) (fun _ h9 => h9) rfl dX1_axisNumber_29 ?_
  refine va_get (D := D) (ci := 2) (v := .ref hPo_ys) (C := RX2) (T := TX2) (N := 5) hx hb hts inlX2 hown hK hP 9 rfl rfl 1 (by decide) (hts (.fieldLink RX1 64 "SquarePlanes$Poles" "ys" "[I") mw_5_11) (fun _ h9 => h9) rfl dX1_axisNumber_32 ?_
  refine lv_iload_n hx hb dX1_axisNumber_35 rfl (lv_at hl 2 rfl) ?_
  refine va_iald hx hb hK hP 11 0 rfl rfl hw.1 dX1_axisNumber_36 ?_
  have hw := hw.2
  refine lv_imul hx hb dX1_axisNumber_37 ?_
  refine lv_isub hx hb dX1_axisNumber_38 ?_
  refine lv_topi (fun x1 ex1 => ?_)
  have hw := hw x1 ex1
  refine lv_istore_n (lv' := [(3, .int x1), (0, .ref hPl), (1, .int p0), (2, .int p1)]) hx hb dX1_axisNumber_39 rfl hl (by decide) rfl (fun ls hl => ?_)
  refine lv_aload_n hx hb dX1_axisNumber_40 rfl (lv_at hl 1 rfl) ?_
  refine va_get (D := D) (ci := 1) (v := .ref hPo) (C := RX1) (T := TX1) (N := 12) hx hb hts inlX1 hown hK hP 0 rfl rfl 0 (by decide) (hts (.fieldLink RX1 9 "SquarePlanes$Planes" "poles" "LSquarePlanes$Poles;") mw_4_5) (fun _ h9 => h9) rfl dX1_axisNumber_41 ?_
  refine va_get (D := D) (ci := 2) (v := .ref hPo_zs) (C := RX2) (T := TX2) (N := 5) hx hb hts inlX2 hown hK hP 9 rfl rfl 2 (by decide) (hts (.fieldLink RX1 67 "SquarePlanes$Poles" "zs" "[I") mw_5_12) (fun _ h9 => h9) rfl dX1_axisNumber_44 ?_
  refine lv_iload_n hx hb dX1_axisNumber_47 rfl (lv_at hl 2 rfl) ?_
  refine va_iald hx hb hK hP 12 0 rfl rfl hw.1 dX1_axisNumber_48 ?_
  have hw := hw.2
  refine lv_aload_n hx hb dX1_axisNumber_49 rfl (lv_at hl 1 rfl) ?_
  refine va_get (D := D) (ci := 1) (v := .ref hPo) (C := RX1) (T := TX1) (N := 12) hx hb hts inlX1 hown hK hP 0 rfl rfl 0 (by decide) (hts (.fieldLink RX1 9 "SquarePlanes$Planes" "poles" "LSquarePlanes$Poles;") mw_4_5) (fun _ h9 => h9) rfl dX1_axisNumber_50 ?_
  refine va_get (D := D) (ci := 2) (v := .ref hPo_xs) (C := RX2) (T := TX2) (N := 5) hx hb hts inlX2 hown hK hP 9 rfl rfl 0 (by decide) (hts (.fieldLink RX1 70 "SquarePlanes$Poles" "xs" "[I") mw_5_13) (fun _ h9 => h9) rfl dX1_axisNumber_53 ?_
  refine lv_iload_n hx hb dX1_axisNumber_56 rfl (lv_at hl 3 rfl) ?_
  refine va_iald hx hb hK hP 10 0 rfl rfl hw.1 dX1_axisNumber_57 ?_
  have hw := hw.2
  refine lv_imul hx hb dX1_axisNumber_58 ?_
  refine lv_aload_n hx hb dX1_axisNumber_59 rfl (lv_at hl 1 rfl) ?_
  refine va_get (D := D) (ci := 1) (v := .ref hPo) (C := RX1) (T := TX1) (N := 12) hx hb hts inlX1 hown hK hP 0 rfl rfl 0 (by decide) (hts (.fieldLink RX1 9 "SquarePlanes$Planes" "poles" "LSquarePlanes$Poles;") mw_4_5) (fun _ h9 => h9) rfl dX1_axisNumber_60 ?_
  refine va_get (D := D) (ci := 2) (v := .ref hPo_xs) (C := RX2) (T := TX2) (N := 5) hx hb hts inlX2 hown hK hP 9 rfl rfl 0 (by decide) (hts (.fieldLink RX1 70 "SquarePlanes$Poles" "xs" "[I") mw_5_13) (fun _ h9 => h9) rfl dX1_axisNumber_63 ?_
  refine lv_iload_n hx hb dX1_axisNumber_66 rfl (lv_at hl 2 rfl) ?_
  refine va_iald hx hb hK hP 10 0 rfl rfl hw.1 dX1_axisNumber_67 ?_
  have hw := hw.2
  refine lv_aload_n hx hb dX1_axisNumber_68 rfl (lv_at hl 1 rfl) ?_
  refine va_get (D := D) (ci := 1) (v := .ref hPo) (C := RX1) (T := TX1) (N := 12) hx hb hts inlX1 hown hK hP 0 rfl rfl 0 (by decide) (hts (.fieldLink RX1 9 "SquarePlanes$Planes" "poles" "LSquarePlanes$Poles;") mw_4_5) (fun _ h9 => h9) rfl dX1_axisNumber_69 ?_
  refine va_get (D := D) (ci := 2) (v := .ref hPo_zs) (C := RX2) (T := TX2) (N := 5) hx hb hts inlX2 hown hK hP 9 rfl rfl 2 (by decide) (hts (.fieldLink RX1 67 "SquarePlanes$Poles" "zs" "[I") mw_5_12) (fun _ h9 => h9) rfl dX1_axisNumber_72 ?_
  refine lv_iload_n hx hb dX1_axisNumber_75 rfl (lv_at hl 3 rfl) ?_
  refine va_iald hx hb hK hP 12 0 rfl rfl hw.1 dX1_axisNumber_76 ?_
  have hw := hw.2
  refine lv_imul hx hb dX1_axisNumber_77 ?_
  refine lv_isub hx hb dX1_axisNumber_78 ?_
  refine lv_topi (fun x2 ex2 => ?_)
  have hw := hw x2 ex2
  refine lv_istore (lv' := [(4, .int x2), (3, .int x1), (0, .ref hPl), (1, .int p0), (2, .int p1)]) hx hb dX1_axisNumber_79 hl (by decide) rfl (fun ls hl => ?_)
  refine lv_aload_n hx hb dX1_axisNumber_81 rfl (lv_at hl 2 rfl) ?_
  refine va_get (D := D) (ci := 1) (v := .ref hPo) (C := RX1) (T := TX1) (N := 12) hx hb hts inlX1 hown hK hP 0 rfl rfl 0 (by decide) (hts (.fieldLink RX1 9 "SquarePlanes$Planes" "poles" "LSquarePlanes$Poles;") mw_4_5) (fun _ h9 => h9) rfl dX1_axisNumber_82 ?_
  refine va_get (D := D) (ci := 2) (v := .ref hPo_xs) (C := RX2) (T := TX2) (N := 5) hx hb hts inlX2 hown hK hP 9 rfl rfl 0 (by decide) (hts (.fieldLink RX1 70 "SquarePlanes$Poles" "xs" "[I") mw_5_13) (fun _ h9 => h9) rfl dX1_axisNumber_85 ?_
  refine lv_iload_n hx hb dX1_axisNumber_88 rfl (lv_at hl 3 rfl) ?_
  refine va_iald hx hb hK hP 10 0 rfl rfl hw.1 dX1_axisNumber_89 ?_
  have hw := hw.2
  refine lv_aload_n hx hb dX1_axisNumber_90 rfl (lv_at hl 2 rfl) ?_
  refine va_get (D := D) (ci := 1) (v := .ref hPo) (C := RX1) (T := TX1) (N := 12) hx hb hts inlX1 hown hK hP 0 rfl rfl 0 (by decide) (hts (.fieldLink RX1 9 "SquarePlanes$Planes" "poles" "LSquarePlanes$Poles;") mw_4_5) (fun _ h9 => h9) rfl dX1_axisNumber_91 ?_
  refine va_get (D := D) (ci := 2) (v := .ref hPo_ys) (C := RX2) (T := TX2) (N := 5) hx hb hts inlX2 hown hK hP 9 rfl rfl 1 (by decide) (hts (.fieldLink RX1 64 "SquarePlanes$Poles" "ys" "[I") mw_5_11) (fun _ h9 => h9) rfl dX1_axisNumber_94 ?_
  refine lv_iload_n hx hb dX1_axisNumber_97 rfl (lv_at hl 4 rfl) ?_
  refine va_iald hx hb hK hP 11 0 rfl rfl hw.1 dX1_axisNumber_98 ?_
  have hw := hw.2
  refine lv_imul hx hb dX1_axisNumber_99 ?_
  refine lv_aload_n hx hb dX1_axisNumber_100 rfl (lv_at hl 2 rfl) ?_
  refine va_get (D := D) (ci := 1) (v := .ref hPo) (C := RX1) (T := TX1) (N := 12) hx hb hts inlX1 hown hK hP 0 rfl rfl 0 (by decide) (hts (.fieldLink RX1 9 "SquarePlanes$Planes" "poles" "LSquarePlanes$Poles;") mw_4_5) (fun _ h9 => h9) rfl dX1_axisNumber_101 ?_
  refine va_get (D := D) (ci := 2) (v := .ref hPo_ys) (C := RX2) (T := TX2) (N := 5) hx hb hts inlX2 hown hK hP 9 rfl rfl 1 (by decide) (hts (.fieldLink RX1 64 "SquarePlanes$Poles" "ys" "[I") mw_5_11) (fun _ h9 => h9) rfl dX1_axisNumber_104 ?_
  refine lv_iload_n hx hb dX1_axisNumber_107 rfl (lv_at hl 3 rfl) ?_
  refine va_iald hx hb hK hP 11 0 rfl rfl hw.1 dX1_axisNumber_108 ?_
  have hw := hw.2
  refine lv_aload_n hx hb dX1_axisNumber_109 rfl (lv_at hl 2 rfl) ?_
  refine va_get (D := D) (ci := 1) (v := .ref hPo) (C := RX1) (T := TX1) (N := 12) hx hb hts inlX1 hown hK hP 0 rfl rfl 0 (by decide) (hts (.fieldLink RX1 9 "SquarePlanes$Planes" "poles" "LSquarePlanes$Poles;") mw_4_5) (fun _ h9 => h9) rfl dX1_axisNumber_110 ?_
  refine va_get (D := D) (ci := 2) (v := .ref hPo_xs) (C := RX2) (T := TX2) (N := 5) hx hb hts inlX2 hown hK hP 9 rfl rfl 0 (by decide) (hts (.fieldLink RX1 70 "SquarePlanes$Poles" "xs" "[I") mw_5_13) (fun _ h9 => h9) rfl dX1_axisNumber_113 ?_
  refine lv_iload_n hx hb dX1_axisNumber_116 rfl (lv_at hl 4 rfl) ?_
  refine va_iald hx hb hK hP 10 0 rfl rfl hw.1 dX1_axisNumber_117 ?_
  have hw := hw.2
  refine lv_imul hx hb dX1_axisNumber_118 ?_
  refine lv_isub hx hb dX1_axisNumber_119 ?_
  refine lv_topi (fun x3 ex3 => ?_)
  have hw := hw x3 ex3
  refine lv_istore (lv' := [(5, .int x3), (4, .int x2), (3, .int x1), (0, .ref hPl), (1, .int p0), (2, .int p1)]) hx hb dX1_axisNumber_120 hl (by decide) rfl (fun ls hl => ?_)
  refine lv_iload_n hx hb dX1_axisNumber_122 rfl (lv_at hl 2 rfl) ?_
  refine lv_iload hx hb dX1_axisNumber_123 (lv_at hl 1 rfl) ?_
  refine lv_iload hx hb dX1_axisNumber_125 (lv_at hl 0 rfl) ?_
  refine kc_i (va_runSN (As := [.int x1, .int x2, .int x3]) (rest := []) ⟨hx, hb, hml, hown, hts⟩ (k_X5_signedDivisor l D cy x1 x2 x3 _ _ hw) ⟨va_cnB 3 hts (gA mw_3_20) rfl rfl rfl hN.2.2.1 (hts (.initialized RX5) mw_1_2) (by decide +kernel) ⟨Nat.le_of_ble_eq_true rfl, Nat.le_of_ble_eq_true rfl⟩, hts (.static yX5_signedDivisor) mw_3_19, trivial⟩ (fPre hN hK hP hD [] rfl rfl _) rfl rfl hl.1 rfl (lv_room (Nat.le_of_ble_eq_true rfl)) dX1_axisNumber_127 ⟨Nat.zero_le _, Nat.zero_le _⟩) (fun r4 hw => ?_)
  refine lv_istore (lv' := [(6, .int r4), (5, .int x3), (4, .int x2), (3, .int x1), (0, .ref hPl), (1, .int p0), (2, .int p1)]) hx hb dX1_axisNumber_130 hl (by decide) rfl (fun ls hl => ?_)
  refine lv_iload hx hb dX1_axisNumber_132 (lv_at hl 0 rfl) ?_
  refine lv_if_ne (tgt := 141) hx hb dX1_axisNumber_134 (by decide) (fun c11 => ?_) (fun c11 => ?_)
  · have hw := hw.2 c11
    refine lv_aload_n hx hb dX1_axisNumber_141 rfl (lv_at hl 4 rfl) ?_
    refine lv_iload_n hx hb dX1_axisNumber_142 rfl (lv_at hl 3 rfl) ?_
    refine lv_iload hx hb dX1_axisNumber_143 (lv_at hl 0 rfl) ?_
    refine lv_idiv hx hb dX1_axisNumber_145 hw.1 ?_
    have hw := hw.2
    refine lv_iload hx hb dX1_axisNumber_146 (lv_at hl 2 rfl) ?_
    refine lv_iload hx hb dX1_axisNumber_148 (lv_at hl 0 rfl) ?_
    refine lv_idiv hx hb dX1_axisNumber_150 hw.1 ?_
    have hw := hw.2
    refine lv_iload hx hb dX1_axisNumber_151 (lv_at hl 1 rfl) ?_
    refine lv_iload hx hb dX1_axisNumber_153 (lv_at hl 0 rfl) ?_
    refine lv_idiv hx hb dX1_axisNumber_155 hw.1 ?_
    have hw := hw.2
    refine fd_i [0] [1] hP hD hS hA rfl rfl rfl (by decide) (va_runV (As := [.int (x1 / r4), .int (x2 / r4), .int (x3 / r4)]) (rest := []) ⟨hx, hb, hml, hown, hts⟩ (k_X1_heldAxis l D cy hPl hPl_lesser hPl_greater hPl_axisOf hPl_axisXs hPl_axisYs hPl_axisZs hPl_axisSquares hPl_poleSigns hPo np nq Pl_poleCount Pl_pairCount Pl_lesser Pl_greater Pl_axisOf Pl_axisXs Pl_axisYs Pl_axisZs Pl_axisSquares Pl_axisCount Pl_poleSigns (x1 / r4) (x2 / r4) (x3 / r4) _ _ hw) (cwV 3 hts (gV mw_5_14 mw_5_15 mw_5_16 mw_2_3 mw_5_17) rfl rfl rfl (by decide +kernel) ⟨Nat.le_of_ble_eq_true rfl, Nat.le_of_ble_eq_true rfl⟩) (fPreV hN hK hP hD [0] rfl rfl 0 (ci := 1) rfl rfl rfl _) rfl rfl hl.1 rfl (lv_room (Nat.le_of_ble_eq_true rfl)) dX1_axisNumber_156 ⟨Nat.zero_le _, Nat.zero_le _⟩) (fun r10 u H locs hw hP hD hS => ?_)
    obtain ⟨w5, w6, w7, w8, w9⟩ := u
    try dsimp only at hw
    have hP : va_P D vwCl (List.flatten [wPl cy hPl hPl_lesser hPl_greater hPl_axisOf hPl_axisXs hPl_axisYs hPl_axisZs hPl_axisSquares hPl_poleSigns hPo np nq Pl_poleCount Pl_pairCount Pl_lesser Pl_greater Pl_axisOf w5 w6 w7 w8 w9 Pl_poleSigns, wPo cy hPo hPo_xs hPo_ys hPo_zs hPo_countUpTo Po_xs Po_ys Po_zs Po_countUpTo Po_count]) H := fl_P hP [1, 0] rfl
    have hD : va_D A (List.flatten [wPl cy hPl hPl_lesser hPl_greater hPl_axisOf hPl_axisXs hPl_axisYs hPl_axisZs hPl_axisSquares hPl_poleSigns hPo np nq Pl_poleCount Pl_pairCount Pl_lesser Pl_greater Pl_axisOf w5 w6 w7 w8 w9 Pl_poleSigns, wPo cy hPo hPo_xs hPo_ys hPo_zs hPo_countUpTo Po_xs Po_ys Po_zs Po_countUpTo Po_count]) := fl_D hD [1, 0] rfl rfl
    exact W.iret (v := r10) hx hb hr (fun t ht hW => ⟨⟨r10, (w5, w6, w7, w8, w9), rfl, hw, ⟨by rw [ht]; exact hP, va_K.moved hW.alike hK, hD⟩⟩, hS.F ht⟩) hS.2.2 dX1_axisNumber_159
  · have hw := hw.1 c11
    refine lv_iconst (v := 0) hx hb dX1_axisNumber_137 (by decide) ?_
    refine lv_goto (tgt := 159) hx hb dX1_axisNumber_138 (by decide) ?_
    exact W.iret (v := 0) hx hb hr (fun t ht hW => ⟨⟨0, (Pl_axisXs, Pl_axisYs, Pl_axisZs, Pl_axisSquares, Pl_axisCount), rfl, hw, ⟨by rw [ht]; exact hP, va_K.moved hW.alike hK, hD⟩⟩, hS.F ht⟩) hS.2.2 dX1_axisNumber_159
set_option maxHeartbeats 4000000 in
set_option maxRecDepth 100000 in
theorem k_X2_addIfPole (l : Launch) (D : va_G) (cy : Nat → ClassId) (hPo hPo_xs hPo_ys hPo_zs hPo_countUpTo : Nat) (Po_xs : Nat → Int32) (Po_ys : Nat → Int32) (Po_zs : Nat → Int32) (Po_countUpTo : Nat → Int32) (Po_count : Int32) (p0 : Int32) (p1 : Int32) (p2 : Int32) (sz : Nat) (Q : (Nat → Int32) → (Nat → Int32) → (Nat → Int32) → Int32 → Prop) (hw : wp_X2_addIfPole p0 p1 p2 Po_xs Po_ys Po_zs Po_count Q) : Met l yX2_addIfPole (wA yX2_addIfPole cX2_addIfPole 4 none) { frames := 3, cells := 0, slots := 0, locals := 70 } (kPc [.ref hPo, .int p0, .int p1, .int p2] D cy (List.flatten [wPo cy hPo hPo_xs hPo_ys hPo_zs hPo_countUpTo Po_xs Po_ys Po_zs Po_countUpTo Po_count]) sz) (va_Qv (fun (u : (Nat → Int32) × (Nat → Int32) × (Nat → Int32) × Int32) => Q u.1 u.2.1 u.2.2.1 u.2.2.2) (fun u t => kB D cy (va_A (List.flatten [wPo cy hPo hPo_xs hPo_ys hPo_zs hPo_countUpTo Po_xs Po_ys Po_zs Po_countUpTo Po_count]) sz) (List.flatten [wPo cy hPo hPo_xs hPo_ys hPo_zs hPo_countUpTo u.1 u.2.1 u.2.2.1 Po_countUpTo u.2.2.2]) t) (va_A (List.flatten [wPo cy hPo hPo_xs hPo_ys hPo_zs hPo_countUpTo Po_xs Po_ys Po_zs Po_countUpTo Po_count]) sz)) 0 0 (va_A (List.flatten [wPo cy hPo hPo_xs hPo_ys hPo_zs hPo_countUpTo Po_xs Po_ys Po_zs Po_countUpTo Po_count]) sz) := by
  refine Met.ofW (cc := cX2_addIfPole) (maxL := 4) (ret := none) (by decide) rfl ?_
  intro p e s m args below meth c s₁ B hml hv
  obtain ⟨rfl, hsz, hN, hP, hK, hD0⟩ := hv
  have hx := B.exec
  have hb := B.bytes
  have hr := B.returns
  have hts0 := atoms_spec (ws := wA yX2_addIfPole cX2_addIfPole 4 none) B.pre
  have hts := fun w (h : w ∈ wsL_law) => hts0 w (List.mem_cons_of_mem _ h)
  have hown : s.vm.findClass RX2 = some m.cls := findClass_of_methodNamed B.named
  have hlocks := B.notSynchronized
  subst hsz
  have hD := hD0.self (sz := s.heap.size)
  generalize hAe : va_A (List.flatten [wPo cy hPo hPo_xs hPo_ys hPo_zs hPo_countUpTo Po_xs Po_ys Po_zs Po_countUpTo Po_count]) s.heap.size = A at hD ⊢
  have hA : ∀ q : Nat, s.heap.size ≤ q → A q := fun q h => by rw [← hAe]; exact Or.inr h
  have hS : va_S A s.heap s.heap [] := va_S.rf
  have hP : va_P D vwCl (List.flatten [wPo cy hPo hPo_xs hPo_ys hPo_zs hPo_countUpTo Po_xs Po_ys Po_zs Po_countUpTo Po_count]) s.heap := hP
  have hl := lv_entry ([.ref hPo, .int p0, .int p1, .int p2]) (n := 4) (Nat.le_of_ble_eq_true rfl)
  rw [lg_entry_eq]
  generalize (lg_sl ([.ref hPo, .int p0, .int p1, .int p2]) ++ List.replicate (4 - (lg_sl ([.ref hPo, .int p0, .int p1, .int p2])).length) Slot.unset).toArray = ls at hl ⊢
  have hl : lv_has ls 4 [(0, .ref hPo), (1, .int p0), (2, .int p1), (3, .int p2)] := hl
  unfold wp_X2_addIfPole at hw
  refine lv_iload_n hx hb dX2_addIfPole_0 rfl (lv_at hl 1 rfl) ?_
  refine lv_iload_n hx hb dX2_addIfPole_1 rfl (lv_at hl 2 rfl) ?_
  refine lv_iload_n hx hb dX2_addIfPole_2 rfl (lv_at hl 3 rfl) ?_
  refine kc_i (va_runSN (As := [.int p0, .int p1, .int p2]) (rest := []) ⟨hx, hb, hml, hown, hts⟩ (k_X5_signedDivisor l D cy p0 p1 p2 _ _ hw) ⟨va_cnB 3 hts (gA mw_3_20) rfl rfl rfl hN.2.1 (hts (.initialized RX5) mw_1_2) (by decide +kernel) ⟨Nat.le_of_ble_eq_true rfl, Nat.le_of_ble_eq_true rfl⟩, hts (.static yX5_signedDivisor) mw_3_19, trivial⟩ (fPre hN hK hP hD [] rfl rfl _) rfl rfl hl.1 rfl (lv_room (Nat.le_of_ble_eq_true rfl)) dX2_addIfPole_3 ⟨Nat.zero_le _, Nat.zero_le _⟩) (fun r1 hw => ?_)
  refine lv_iconst (v := 1) hx hb dX2_addIfPole_6 (by decide) ?_
  refine lv_icmp_ne (tgt := 60) hx hb dX2_addIfPole_7 (by decide) (fun c4 => ?_) (fun c4 => ?_)
  · have hw := hw.2 c4
    exact W.vret hx hb hr (fun t ht hW => ⟨⟨(Po_xs, Po_ys, Po_zs, Po_count), rfl, hw, ⟨by rw [ht]; exact hP, va_K.moved hW.alike hK, hD⟩⟩, hS.F ht⟩) hS.2.2 dX2_addIfPole_60
  · have hw := hw.1 c4
    refine lv_aload_n hx hb dX2_addIfPole_10 rfl (lv_at hl 0 rfl) ?_
    refine va_get (D := D) (ci := 2) (v := .int Po_count) (C := RX2) (T := TX2) (N := 5) hx hb hts inlX2 hown hK hP 0 rfl rfl 4 (by decide) (hts (.fieldLink RX2 28 "SquarePlanes$Poles" "count" "I") mw_3_3) (fun _ h9 => h9) rfl dX2_addIfPole_11 ?_
    refine lv_sipush (v := 171) hx hb dX2_addIfPole_14 (by decide) ?_
    refine lv_icmp_ge (tgt := 60) hx hb dX2_addIfPole_17 (by decide) (fun c3 => ?_) (fun c3 => ?_)
    · have hw := hw.1 c3
      exact W.vret hx hb hr (fun t ht hW => ⟨⟨(Po_xs, Po_ys, Po_zs, Po_count), rfl, hw, ⟨by rw [ht]; exact hP, va_K.moved hW.alike hK, hD⟩⟩, hS.F ht⟩) hS.2.2 dX2_addIfPole_60
    · have hw := hw.2 c3
      refine lv_aload_n hx hb dX2_addIfPole_20 rfl (lv_at hl 0 rfl) ?_
      refine va_get (D := D) (ci := 2) (v := .ref hPo_xs) (C := RX2) (T := TX2) (N := 5) hx hb hts inlX2 hown hK hP 0 rfl rfl 0 (by decide) (hts (.fieldLink RX2 9 "SquarePlanes$Poles" "xs" "[I") mw_2_23) (fun _ h9 => h9) rfl dX2_addIfPole_21 ?_
      refine lv_aload_n hx hb dX2_addIfPole_24 rfl (lv_at hl 0 rfl) ?_
      refine va_get (D := D) (ci := 2) (v := .int Po_count) (C := RX2) (T := TX2) (N := 5) hx hb hts inlX2 hown hK hP 0 rfl rfl 4 (by decide) (hts (.fieldLink RX2 28 "SquarePlanes$Poles" "count" "I") mw_3_3) (fun _ h9 => h9) rfl dX2_addIfPole_25 ?_
      refine lv_iload_n hx hb dX2_addIfPole_28 rfl (lv_at hl 1 rfl) ?_
      refine va_iast hx hb hK hP hD hS 1 0 rfl rfl hw.1 dX2_addIfPole_29 (fun H locs hP hD hS => ?_)
      have hw := hw.2
      have hP : va_P D vwCl (List.flatten [wPo cy hPo hPo_xs hPo_ys hPo_zs hPo_countUpTo (upd Po_xs Po_count.toNatClampNeg p0) Po_ys Po_zs Po_countUpTo Po_count]) H := hP
      have hD : va_D A (List.flatten [wPo cy hPo hPo_xs hPo_ys hPo_zs hPo_countUpTo (upd Po_xs Po_count.toNatClampNeg p0) Po_ys Po_zs Po_countUpTo Po_count]) := hD
      refine lv_aload_n hx hb dX2_addIfPole_30 rfl (lv_at hl 0 rfl) ?_
      refine va_get (D := D) (ci := 2) (v := .ref hPo_ys) (C := RX2) (T := TX2) (N := 5) hx hb hts inlX2 hown hK hP 0 rfl rfl 1 (by decide) (hts (.fieldLink RX2 15 "SquarePlanes$Poles" "ys" "[I") mw_3_0) (fun _ h9 => h9) rfl dX2_addIfPole_31 ?_
      refine lv_aload_n hx hb dX2_addIfPole_34 rfl (lv_at hl 0 rfl) ?_
      refine va_get (D := D) (ci := 2) (v := .int Po_count) (C := RX2) (T := TX2) (N := 5) hx hb hts inlX2 hown hK hP 0 rfl rfl 4 (by decide) (hts (.fieldLink RX2 28 "SquarePlanes$Poles" "count" "I") mw_3_3) (fun _ h9 => h9) rfl dX2_addIfPole_35 ?_
      refine lv_iload_n hx hb dX2_addIfPole_38 rfl (lv_at hl 2 rfl) ?_
      refine va_iast hx hb hK hP hD hS 2 0 rfl rfl hw.1 dX2_addIfPole_39 (fun H locs hP hD hS => ?_)
      have hw := hw.2
      have hP : va_P D vwCl (List.flatten [wPo cy hPo hPo_xs hPo_ys hPo_zs hPo_countUpTo (upd Po_xs Po_count.toNatClampNeg p0) (upd Po_ys Po_count.toNatClampNeg p1) Po_zs Po_countUpTo Po_count]) H := hP
      have hD : va_D A (List.flatten [wPo cy hPo hPo_xs hPo_ys hPo_zs hPo_countUpTo (upd Po_xs Po_count.toNatClampNeg p0) (upd Po_ys Po_count.toNatClampNeg p1) Po_zs Po_countUpTo Po_count]) := hD
      refine lv_aload_n hx hb dX2_addIfPole_40 rfl (lv_at hl 0 rfl) ?_
      refine va_get (D := D) (ci := 2) (v := .ref hPo_zs) (C := RX2) (T := TX2) (N := 5) hx hb hts inlX2 hown hK hP 0 rfl rfl 2 (by decide) (hts (.fieldLink RX2 18 "SquarePlanes$Poles" "zs" "[I") mw_3_1) (fun _ h9 => h9) rfl dX2_addIfPole_41 ?_
      refine lv_aload_n hx hb dX2_addIfPole_44 rfl (lv_at hl 0 rfl) ?_
      refine va_get (D := D) (ci := 2) (v := .int Po_count) (C := RX2) (T := TX2) (N := 5) hx hb hts inlX2 hown hK hP 0 rfl rfl 4 (by decide) (hts (.fieldLink RX2 28 "SquarePlanes$Poles" "count" "I") mw_3_3) (fun _ h9 => h9) rfl dX2_addIfPole_45 ?_
      refine lv_iload_n hx hb dX2_addIfPole_48 rfl (lv_at hl 3 rfl) ?_
      refine va_iast hx hb hK hP hD hS 3 0 rfl rfl hw.1 dX2_addIfPole_49 (fun H locs hP hD hS => ?_)
      have hw := hw.2
      have hP : va_P D vwCl (List.flatten [wPo cy hPo hPo_xs hPo_ys hPo_zs hPo_countUpTo (upd Po_xs Po_count.toNatClampNeg p0) (upd Po_ys Po_count.toNatClampNeg p1) (upd Po_zs Po_count.toNatClampNeg p2) Po_countUpTo Po_count]) H := hP
      have hD : va_D A (List.flatten [wPo cy hPo hPo_xs hPo_ys hPo_zs hPo_countUpTo (upd Po_xs Po_count.toNatClampNeg p0) (upd Po_ys Po_count.toNatClampNeg p1) (upd Po_zs Po_count.toNatClampNeg p2) Po_countUpTo Po_count]) := hD
      refine lv_aload_n hx hb dX2_addIfPole_50 rfl (lv_at hl 0 rfl) ?_
      refine lv_dup hx hb dX2_addIfPole_51 rfl ?_
      refine va_get (D := D) (ci := 2) (v := .int Po_count) (C := RX2) (T := TX2) (N := 5) hx hb hts inlX2 hown hK hP 0 rfl rfl 4 (by decide) (hts (.fieldLink RX2 28 "SquarePlanes$Poles" "count" "I") mw_3_3) (fun _ h9 => h9) rfl dX2_addIfPole_52 ?_
      refine lv_iconst (v := 1) hx hb dX2_addIfPole_55 (by decide) ?_
      refine lv_iadd hx hb dX2_addIfPole_56 ?_
      refine lv_topi (fun x2 ex2 => ?_)
      have hw := hw x2 ex2
      refine va_put (D := D) (ci := 2) (v := .int x2) (ty := tyX2 4) (C := RX2) (T := TX2) (N := 5) hx hb hts inlX2 tyX2 tyX2_ok nmX2 hown hK hP hD hS 0 rfl rfl 4 (by decide) (hts (.fieldLink RX2 28 "SquarePlanes$Poles" "count" "I") mw_3_3) (fun _ h9 => h9) rfl (tyX2_ok 4 (by decide)) rfl rfl (Nat.le_of_ble_eq_true rfl) dX2_addIfPole_57 (fun H locs hP hD hS => ?_)
      have hP : va_P D vwCl (List.flatten [wPo cy hPo hPo_xs hPo_ys hPo_zs hPo_countUpTo (upd Po_xs Po_count.toNatClampNeg p0) (upd Po_ys Po_count.toNatClampNeg p1) (upd Po_zs Po_count.toNatClampNeg p2) Po_countUpTo x2]) H := hP
      have hD : va_D A (List.flatten [wPo cy hPo hPo_xs hPo_ys hPo_zs hPo_countUpTo (upd Po_xs Po_count.toNatClampNeg p0) (upd Po_ys Po_count.toNatClampNeg p1) (upd Po_zs Po_count.toNatClampNeg p2) Po_countUpTo x2]) := hD
      exact W.vret hx hb hr (fun t ht hW => ⟨⟨(upd Po_xs Po_count.toNatClampNeg p0, upd Po_ys Po_count.toNatClampNeg p1, upd Po_zs Po_count.toNatClampNeg p2, x2), rfl, hw, ⟨by rw [ht]; exact hP, va_K.moved hW.alike hK, hD⟩⟩, hS.F ht⟩) hS.2.2 dX2_addIfPole_60
