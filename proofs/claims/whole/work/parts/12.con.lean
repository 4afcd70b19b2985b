set_option maxHeartbeats 4000000 in
set_option maxRecDepth 100000 in
theorem k_J7_fill_53178 (l : Launch) (D : va_G) (cy : Nat → ClassId) (hAR_row nar : Nat) (AR_row : Nat → Int32) (p1 : Int32) (sz : Nat) (Q : (Nat → Int32) → Prop) (hw : wp_J7_fill_53178 p1 nar AR_row Q) : Met l yJ7_fill_53178 (wA yJ7_fill_53178 cJ7_fill_53178 4 none) { frames := 0, cells := 0, slots := 0, locals := 0 } (kPc [.ref hAR_row, .int p1] D cy (List.flatten [wAR cy hAR_row nar AR_row]) sz) (va_Qv (fun (u : (Nat → Int32)) => Q u) (fun u t => kB D cy (va_A (List.flatten [wAR cy hAR_row nar AR_row]) sz) (List.flatten [wAR cy hAR_row nar u]) t) (va_A (List.flatten [wAR cy hAR_row nar AR_row]) sz)) 0 0 (va_A (List.flatten [wAR cy hAR_row nar AR_row]) sz) := by
  refine Met.ofW (cc := cJ7_fill_53178) (maxL := 4) (ret := none) (by decide) rfl ?_
  intro p e s m args below meth c s₁ B hml hv
  obtain ⟨rfl, hsz, hN, hP, hK, hD0⟩ := hv
  have hx := B.exec
  have hb := B.bytes
  have hr := B.returns
  have hts0 := atoms_spec (ws := wA yJ7_fill_53178 cJ7_fill_53178 4 none) B.pre
  have hts := fun w (h : w ∈ wsL_law) => hts0 w (List.mem_cons_of_mem _ h)
  have hown : s.vm.findClass RJ7 = some m.cls := findClass_of_methodNamed B.named
  have hlocks := B.notSynchronized
  subst hsz
  have hD := hD0.self (sz := s.heap.size)
  generalize hAe : va_A (List.flatten [wAR cy hAR_row nar AR_row]) s.heap.size = A at hD ⊢
  have hA : ∀ q : Nat, s.heap.size ≤ q → A q := fun q h => by rw [← hAe]; exact Or.inr h
  have hS : va_S A s.heap s.heap [] := va_S.rf
  have hP : va_P D vwCl (List.flatten [wAR cy hAR_row nar AR_row]) s.heap := hP
  have hl := lv_entry ([.ref hAR_row, .int p1]) (n := 4) (Nat.le_of_ble_eq_true rfl)
  rw [lg_entry_eq]
  generalize (lg_sl ([.ref hAR_row, .int p1]) ++ List.replicate (4 - (lg_sl ([.ref hAR_row, .int p1])).length) Slot.unset).toArray = ls at hl ⊢
  have hl : lv_has ls 4 [(0, .ref hAR_row), (1, .int p1)] := hl
  unfold wp_J7_fill_53178 at hw
  refine lv_iconst (v := 0) hx hb dJ7_fill_53178_0 (by decide) ?_
  refine lv_istore_n (lv' := [(2, .int 0), (0, .ref hAR_row), (1, .int p1)]) hx hb dJ7_fill_53178_1 rfl hl (by decide) rfl (fun ls hl => ?_)
  refine lv_aload_n hx hb dJ7_fill_53178_2 rfl (lv_at hl 1 rfl) ?_
  refine va_alen hx hb hK hP 0 0 rfl rfl rfl dJ7_fill_53178_3 ?_
  refine lv_topi (fun x1 ex1 => ?_)
  have hw := hw x1 ex1
  refine lv_istore_n (lv' := [(3, .int x1), (2, .int 0), (0, .ref hAR_row), (1, .int p1)]) hx hb dJ7_fill_53178_4 rfl hl (by decide) rfl (fun ls hl => ?_)
  obtain ⟨n5, hw⟩ := hw
  have kl5 : ∀ (K5_20 : Int32 → (Nat → Int32) → Prop) (hk5_20 : ∀ (y2_5 : Int32) (AR_row_v_5 : Nat → Int32) (H : Heap) (locs : List Loc) (ls : Array Slot), K5_20 y2_5 AR_row_v_5 → va_P D vwCl (List.flatten [wAR cy hAR_row nar AR_row_v_5]) H → va_D A (List.flatten [wAR cy hAR_row nar AR_row_v_5]) → va_S A s.heap H locs → lv_has ls 4 [(0, .ref hAR_row), (1, .int p1), (2, .int y2_5), (3, .int x1)] → W p l e (headSpec (wA yJ7_fill_53178 cJ7_fill_53178 4 none) { frames := 0, cells := 0, slots := 0, locals := 0 }).room s m #[.ref hAR_row, .int p1] below meth c H locs 0 0 (MQ below (va_Qv (fun (u : (Nat → Int32)) => Q u) (fun u t => kB D cy A (List.flatten [wAR cy hAR_row nar u]) t) A) #[.ref hAR_row, .int p1] s 0 0 A) (F0 m 20 ls [])) (n : Nat) (y2_5 : Int32) (AR_row_v_5 : Nat → Int32) (H : Heap) (locs : List Loc) (ls : Array Slot), wp_J7_fill_53178_L5 p1 nar x1 K5_20 n y2_5 AR_row_v_5 → va_P D vwCl (List.flatten [wAR cy hAR_row nar AR_row_v_5]) H → va_D A (List.flatten [wAR cy hAR_row nar AR_row_v_5]) → va_S A s.heap H locs → lv_has ls 4 [(0, .ref hAR_row), (1, .int p1), (2, .int y2_5), (3, .int x1)] → W p l e (headSpec (wA yJ7_fill_53178 cJ7_fill_53178 4 none) { frames := 0, cells := 0, slots := 0, locals := 0 }).room s m #[.ref hAR_row, .int p1] below meth c H locs 0 0 (MQ below (va_Qv (fun (u : (Nat → Int32)) => Q u) (fun u t => kB D cy A (List.flatten [wAR cy hAR_row nar u]) t) A) #[.ref hAR_row, .int p1] s 0 0 A) (F0 m 5 ls []) := by
    intro K5_20 hk5_20 n
    induction n with
    | zero =>
      intro y2_5 AR_row_v_5 H locs ls hw
      exact hw.elim
    | succ n ih5 =>
      intro y2_5 AR_row_v_5 H locs ls hw hP hD hS hl
      unfold wp_J7_fill_53178_L5 at hw
      refine lv_iload_n hx hb dJ7_fill_53178_5 rfl (lv_at hl 2 rfl) ?_
      refine lv_iload_n hx hb dJ7_fill_53178_6 rfl (lv_at hl 3 rfl) ?_
      refine lv_icmp_ge (tgt := 20) hx hb dJ7_fill_53178_7 (by decide) (fun c1_5 => ?_) (fun c1_5 => ?_)
      · have hw := hw.1 c1_5
        exact hk5_20 y2_5 AR_row_v_5 _ _ ls hw hP hD hS (lv_sub hl [0, 1, 2, 3] rfl)
      · have hw := hw.2 c1_5
        refine lv_aload_n hx hb dJ7_fill_53178_10 rfl (lv_at hl 0 rfl) ?_
        refine lv_iload_n hx hb dJ7_fill_53178_11 rfl (lv_at hl 2 rfl) ?_
        refine lv_iload_n hx hb dJ7_fill_53178_12 rfl (lv_at hl 1 rfl) ?_
        refine va_iast hx hb hK hP hD hS 0 0 rfl rfl hw.1 dJ7_fill_53178_13 (fun H locs hP hD hS => ?_)
        have hw := hw.2
        have hP : va_P D vwCl (List.flatten [wAR cy hAR_row nar (upd AR_row_v_5 y2_5.toNatClampNeg p1)]) H := hP
        have hD : va_D A (List.flatten [wAR cy hAR_row nar (upd AR_row_v_5 y2_5.toNatClampNeg p1)]) := hD
        refine lv_iinc (v := y2_5 + 1) (lv' := [(2, .int (y2_5 + 1)), (0, .ref hAR_row), (1, .int p1), (3, .int x1)]) hx hb dJ7_fill_53178_14 hl (k := 2) rfl rfl (by decide) rfl (fun ls hl => ?_)
        refine lv_goto (tgt := 5) hx hb dJ7_fill_53178_17 (by decide) ?_
        exact ih5 (y2_5 + 1) (upd AR_row_v_5 y2_5.toNatClampNeg p1) _ _ ls hw hP hD hS (lv_sub hl [1, 2, 0, 3] rfl)
  refine kl5 _ ?_ n5 0 AR_row _ _ ls hw hP hD hS (lv_sub hl [2, 3, 1, 0] rfl)
  · intro y2_5 AR_row_v_5 H locs ls hw hP hD hS hl
    exact W.vret hx hb hr (fun t ht hW => ⟨⟨AR_row_v_5, rfl, hw, ⟨by rw [ht]; exact hP, va_K.moved hW.alike hK, hD⟩⟩, hS.F ht⟩) hS.2.2 dJ7_fill_53178_20
set_option maxHeartbeats 4000000 in
set_option maxRecDepth 100000 in
theorem k_X1_hasSolution (l : Launch) (D : va_G) (cy : Nat → ClassId) (hPl hPl_lesser hPl_greater hPl_axisOf hPl_axisXs hPl_axisYs hPl_axisZs hPl_axisSquares hPl_poleSigns hPo np nq : Nat) (Pl_poleCount : Int32) (Pl_pairCount : Int32) (Pl_lesser : Nat → Int32) (Pl_greater : Nat → Int32) (Pl_axisOf : Nat → Int32) (Pl_axisXs : Nat → Int32) (Pl_axisYs : Nat → Int32) (Pl_axisZs : Nat → Int32) (Pl_axisSquares : Nat → Int32) (Pl_axisCount : Int32) (Pl_poleSigns : Nat → Int32) (p0 : Int32) (sz : Nat) (Q : Int32 → Prop) (hw : wp_X1_hasSolution p0 np nq Pl_pairCount Q) : Met l yX1_hasSolution (wA yX1_hasSolution cX1_hasSolution 2 (some .boolean)) { frames := 1, cells := 0, slots := 0, locals := 20 } (kPc [.ref hPl, .int p0] D cy (List.flatten [wPl cy hPl hPl_lesser hPl_greater hPl_axisOf hPl_axisXs hPl_axisYs hPl_axisZs hPl_axisSquares hPl_poleSigns hPo np nq Pl_poleCount Pl_pairCount Pl_lesser Pl_greater Pl_axisOf Pl_axisXs Pl_axisYs Pl_axisZs Pl_axisSquares Pl_axisCount Pl_poleSigns]) sz) (kSi Q) 0 0 (fun _ => False) := by
  refine Met.ofW (cc := cX1_hasSolution) (maxL := 2) (ret := (some .boolean)) (by decide) rfl ?_
  intro p e s m args below meth c s₁ B hml hv
  obtain ⟨rfl, hsz, hN, hP, hK, hD0⟩ := hv
  have hx := B.exec
  have hb := B.bytes
  have hr := B.returns
  have hts0 := atoms_spec (ws := wA yX1_hasSolution cX1_hasSolution 2 (some .boolean)) B.pre
  have hts := fun w (h : w ∈ wsL_law) => hts0 w (List.mem_cons_of_mem _ h)
  have hown : s.vm.findClass RX1 = some m.cls := findClass_of_methodNamed B.named
  have hlocks := B.notSynchronized
  subst hsz
  have hD := hD0
  have hl := lv_entry ([.ref hPl, .int p0]) (n := 2) (Nat.le_of_ble_eq_true rfl)
  rw [lg_entry_eq]
  generalize (lg_sl ([.ref hPl, .int p0]) ++ List.replicate (2 - (lg_sl ([.ref hPl, .int p0])).length) Slot.unset).toArray = ls at hl ⊢
  have hl : lv_has ls 2 [(0, .ref hPl), (1, .int p0)] := hl
  unfold wp_X1_hasSolution at hw
  refine lv_iload_n hx hb dX1_hasSolution_0 rfl (lv_at hl 1 rfl) ?_
  refine lv_if_lt (tgt := 16) hx hb dX1_hasSolution_1 (by decide) (fun c3 => ?_) (fun c3 => ?_)
  · have hw := hw.1 c3
    refine lv_iconst (v := 0) hx hb dX1_hasSolution_16 (by decide) ?_
    exact W.zret (v := 0) hx hb hr rfl (fun t ht hW => ⟨0, rfl, hw, ht⟩) (fun q h => by cases h) dX1_hasSolution_17
  · have hw := hw.2 c3
    refine lv_iload_n hx hb dX1_hasSolution_4 rfl (lv_at hl 1 rfl) ?_
    refine lv_aload_n hx hb dX1_hasSolution_5 rfl (lv_at hl 0 rfl) ?_
    refine kc_i (va_runV (As := []) (rest := [.int p0]) ⟨hx, hb, hml, hown, hts⟩ (k_X1_solutionCount l D cy hPl hPl_lesser hPl_greater hPl_axisOf hPl_axisXs hPl_axisYs hPl_axisZs hPl_axisSquares hPl_poleSigns hPo np nq Pl_poleCount Pl_pairCount Pl_lesser Pl_greater Pl_axisOf Pl_axisXs Pl_axisYs Pl_axisZs Pl_axisSquares Pl_axisCount Pl_poleSigns _ _ hw) (cwV 0 hts (gV mw_22_0 mw_7_1 mw_7_2 mw_2_3 mw_7_3) rfl rfl rfl (by decide +kernel) ⟨Nat.le_of_ble_eq_true rfl, Nat.le_of_ble_eq_true rfl⟩) (fPreV hN hK hP hD [0] rfl rfl 0 (ci := 1) rfl rfl rfl _) rfl rfl hl.1 rfl (lv_room (Nat.le_of_ble_eq_true rfl)) dX1_hasSolution_6 ⟨Nat.zero_le _, Nat.zero_le _⟩) (fun r1 hw => ?_)
    refine lv_icmp_ge (tgt := 16) hx hb dX1_hasSolution_9 (by decide) (fun c2 => ?_) (fun c2 => ?_)
    · have hw := hw.1 c2
      refine lv_iconst (v := 0) hx hb dX1_hasSolution_16 (by decide) ?_
      exact W.zret (v := 0) hx hb hr rfl (fun t ht hW => ⟨0, rfl, hw, ht⟩) (fun q h => by cases h) dX1_hasSolution_17
    · have hw := hw.2 c2
      refine lv_iconst (v := 1) hx hb dX1_hasSolution_12 (by decide) ?_
      refine lv_goto (tgt := 17) hx hb dX1_hasSolution_13 (by decide) ?_
      exact W.zret (v := 1) hx hb hr rfl (fun t ht hW => ⟨1, rfl, hw, ht⟩) (fun q h => by cases h) dX1_hasSolution_17
set_option maxHeartbeats 4000000 in
set_option maxRecDepth 100000 in
theorem k_X1_signAlong (l : Launch) (D : va_G) (cy : Nat → ClassId) (hPl hPl_lesser hPl_greater hPl_axisOf hPl_axisXs hPl_axisYs hPl_axisZs hPl_axisSquares hPl_poleSigns hPo hPo_xs hPo_ys hPo_zs hPo_countUpTo np nq : Nat) (Pl_poleCount : Int32) (Pl_pairCount : Int32) (Pl_lesser : Nat → Int32) (Pl_greater : Nat → Int32) (Pl_axisOf : Nat → Int32) (Pl_axisXs : Nat → Int32) (Pl_axisYs : Nat → Int32) (Pl_axisZs : Nat → Int32) (Pl_axisSquares : Nat → Int32) (Pl_axisCount : Int32) (Pl_poleSigns : Nat → Int32) (Po_xs : Nat → Int32) (Po_ys : Nat → Int32) (Po_zs : Nat → Int32) (Po_countUpTo : Nat → Int32) (Po_count : Int32) (p0 : Int32) (p1 : Int32) (p2 : Int32) (p3 : Int32) (sz : Nat) (Q : Int32 → Prop) (hw : wp_X1_signAlong p0 p1 p2 p3 np nq Pl_lesser Pl_greater Po_xs Po_ys Po_zs Q) : Met l yX1_signAlong (wA yX1_signAlong cX1_signAlong 7 (some .int)) { frames := 1, cells := 0, slots := 0, locals := 24 } (kPc [.ref hPl, .int p0, .int p1, .int p2, .int p3] D cy (List.flatten [wPl cy hPl hPl_lesser hPl_greater hPl_axisOf hPl_axisXs hPl_axisYs hPl_axisZs hPl_axisSquares hPl_poleSigns hPo np nq Pl_poleCount Pl_pairCount Pl_lesser Pl_greater Pl_axisOf Pl_axisXs Pl_axisYs Pl_axisZs Pl_axisSquares Pl_axisCount Pl_poleSigns, wPo cy hPo hPo_xs hPo_ys hPo_zs hPo_countUpTo Po_xs Po_ys Po_zs Po_countUpTo Po_count]) sz) (kSi Q) 0 0 (fun _ => False) := by
  refine Met.ofW (cc := cX1_signAlong) (maxL := 7) (ret := (some .int)) (by decide) rfl ?_
  intro p e s m args below meth c s₁ B hml hv
  obtain ⟨rfl, hsz, hN, hP, hK, hD0⟩ := hv
  have hx := B.exec
  have hb := B.bytes
  have hr := B.returns
  have hts0 := atoms_spec (ws := wA yX1_signAlong cX1_signAlong 7 (some .int)) B.pre
  have hts := fun w (h : w ∈ wsL_law) => hts0 w (List.mem_cons_of_mem _ h)
  have hown : s.vm.findClass RX1 = some m.cls := findClass_of_methodNamed B.named
  have hlocks := B.notSynchronized
  subst hsz
  have hD := hD0
  have hl := lv_entry ([.ref hPl, .int p0, .int p1, .int p2, .int p3]) (n := 7) (Nat.le_of_ble_eq_true rfl)
  rw [lg_entry_eq]
  generalize (lg_sl ([.ref hPl, .int p0, .int p1, .int p2, .int p3]) ++ List.replicate (7 - (lg_sl ([.ref hPl, .int p0, .int p1, .int p2, .int p3])).length) Slot.unset).toArray = ls at hl ⊢
  have hl : lv_has ls 7 [(0, .ref hPl), (1, .int p0), (2, .int p1), (3, .int p2), (4, .int p3)] := hl
  unfold wp_X1_signAlong at hw
  refine lv_aload_n hx hb dX1_signAlong_0 rfl (lv_at hl 0 rfl) ?_
  refine va_get (D := D) (ci := 1) (v := .ref hPo) (C := RX1) (T := TX1) (N := 12) hx hb hts inlX1 hown hK hP 0 rfl rfl 0 (by decide) (hts (.fieldLink RX1 9 "SquarePlanes$Planes" "poles" "LSquarePlanes$Poles;") mw_4_5) (fun _ h9 => h9) rfl dX1_signAlong_1 ?_
  refine lv_aload_n hx hb dX1_signAlong_4 rfl (lv_at hl 0 rfl) ?_
  refine va_get (D := D) (ci := 1) (v := .ref hPl_lesser) (C := RX1) (T := TX1) (N := 12) hx hb hts inlX1 hown hK hP 0 rfl rfl 3 (by decide) (hts (.fieldLink RX1 26 "SquarePlanes$Planes" "lesser" "[I") mw_4_8) (fun _ h9 => h9) rfl dX1_signAlong_5 ?_
  refine lv_iload_n hx hb dX1_signAlong_8 rfl (lv_at hl 1 rfl) ?_
  refine lv_iconst (v := 2) hx hb dX1_signAlong_9 (by decide) ?_
  refine lv_idiv hx hb dX1_signAlong_10 (by decide) ?_
  refine va_iald hx hb hK hP 1 0 rfl rfl hw.1 dX1_signAlong_11 ?_
  have hw := hw.2
  refine lv_iload_n hx hb dX1_signAlong_12 rfl (lv_at hl 2 rfl) ?_
  refine lv_iload_n hx hb dX1_signAlong_13 rfl (lv_at hl 3 rfl) ?_
  refine lv_iload hx hb dX1_signAlong_14 (lv_at hl 4 rfl) ?_
  refine kc_i (va_runV (As := [.int (Pl_lesser (p0 / 2).toNatClampNeg), .int p1, .int p2, .int p3]) (rest := []) ⟨hx, hb, hml, hown, hts⟩ (k_X2_dot l D cy hPo hPo_xs hPo_ys hPo_zs hPo_countUpTo Po_xs Po_ys Po_zs Po_countUpTo Po_count (Pl_lesser (p0 / 2).toNatClampNeg) p1 p2 p3 _ _ hw) (cwV 4 hts (gV mw_14_22 mw_5_0 mw_5_1 mw_1_18 mw_5_2) rfl rfl rfl (by decide +kernel) ⟨Nat.le_of_ble_eq_true rfl, Nat.le_of_ble_eq_true rfl⟩) (fPreV hN hK hP hD [1] rfl rfl 9 (ci := 2) rfl rfl rfl _) rfl rfl hl.1 rfl (lv_room (Nat.le_of_ble_eq_true rfl)) dX1_signAlong_16 ⟨Nat.zero_le _, Nat.zero_le _⟩) (fun r1 hw => ?_)
  refine kc_i (va_runSN (As := [.int r1]) (rest := []) ⟨hx, hb, hml, hown, hts⟩ (k_X5_signOf l D cy r1 _ _ hw) ⟨va_cnB 1 hts (gA mw_15_0) rfl rfl rfl hN.2.2.2.1 (hts (.initialized RX5) mw_1_2) (by decide +kernel) ⟨Nat.le_of_ble_eq_true rfl, Nat.le_of_ble_eq_true rfl⟩, hts (.static yX5_signOf) mw_14_23, trivial⟩ (fPre hN hK hP hD [] rfl rfl _) rfl rfl hl.1 rfl (lv_room (Nat.le_of_ble_eq_true rfl)) dX1_signAlong_19 ⟨Nat.zero_le _, Nat.zero_le _⟩) (fun r2 hw => ?_)
  refine lv_istore (lv' := [(5, .int r2), (0, .ref hPl), (1, .int p0), (2, .int p1), (3, .int p2), (4, .int p3)]) hx hb dX1_signAlong_22 hl (by decide) rfl (fun ls hl => ?_)
  refine lv_aload_n hx hb dX1_signAlong_24 rfl (lv_at hl 1 rfl) ?_
  refine va_get (D := D) (ci := 1) (v := .ref hPo) (C := RX1) (T := TX1) (N := 12) hx hb hts inlX1 hown hK hP 0 rfl rfl 0 (by decide) (hts (.fieldLink RX1 9 "SquarePlanes$Planes" "poles" "LSquarePlanes$Poles;") mw_4_5) (fun _ h9 => h9) rfl dX1_signAlong_25 ?_
  refine lv_aload_n hx hb dX1_signAlong_28 rfl (lv_at hl 1 rfl) ?_
  refine va_get (D := D) (ci := 1) (v := .ref hPl_greater) (C := RX1) (T := TX1) (N := 12) hx hb hts inlX1 hown hK hP 0 rfl rfl 4 (by decide) (hts (.fieldLink RX1 30 "SquarePlanes$Planes" "greater" "[I") mw_4_9) (fun _ h9 => h9) rfl dX1_signAlong_29 ?_
  refine lv_iload_n hx hb dX1_signAlong_32 rfl (lv_at hl 2 rfl) ?_
  refine lv_iconst (v := 2) hx hb dX1_signAlong_33 (by decide) ?_
  refine lv_idiv hx hb dX1_signAlong_34 (by decide) ?_
  refine va_iald hx hb hK hP 2 0 rfl rfl hw.1 dX1_signAlong_35 ?_
  have hw := hw.2
  refine lv_iload_n hx hb dX1_signAlong_36 rfl (lv_at hl 3 rfl) ?_
  refine lv_iload_n hx hb dX1_signAlong_37 rfl (lv_at hl 4 rfl) ?_
  refine lv_iload hx hb dX1_signAlong_38 (lv_at hl 5 rfl) ?_
  refine kc_i (va_runV (As := [.int (Pl_greater (p0 / 2).toNatClampNeg), .int p1, .int p2, .int p3]) (rest := []) ⟨hx, hb, hml, hown, hts⟩ (k_X2_dot l D cy hPo hPo_xs hPo_ys hPo_zs hPo_countUpTo Po_xs Po_ys Po_zs Po_countUpTo Po_count (Pl_greater (p0 / 2).toNatClampNeg) p1 p2 p3 _ _ hw) (cwV 4 hts (gV mw_14_22 mw_5_0 mw_5_1 mw_1_18 mw_5_2) rfl rfl rfl (by decide +kernel) ⟨Nat.le_of_ble_eq_true rfl, Nat.le_of_ble_eq_true rfl⟩) (fPreV hN hK hP hD [1] rfl rfl 9 (ci := 2) rfl rfl rfl _) rfl rfl hl.1 rfl (lv_room (Nat.le_of_ble_eq_true rfl)) dX1_signAlong_40 ⟨Nat.zero_le _, Nat.zero_le _⟩) (fun r3 hw => ?_)
  refine kc_i (va_runSN (As := [.int r3]) (rest := []) ⟨hx, hb, hml, hown, hts⟩ (k_X5_signOf l D cy r3 _ _ hw) ⟨va_cnB 1 hts (gA mw_15_0) rfl rfl rfl hN.2.2.2.1 (hts (.initialized RX5) mw_1_2) (by decide +kernel) ⟨Nat.le_of_ble_eq_true rfl, Nat.le_of_ble_eq_true rfl⟩, hts (.static yX5_signOf) mw_14_23, trivial⟩ (fPre hN hK hP hD [] rfl rfl _) rfl rfl hl.1 rfl (lv_room (Nat.le_of_ble_eq_true rfl)) dX1_signAlong_43 ⟨Nat.zero_le _, Nat.zero_le _⟩) (fun r4 hw => ?_)
  refine lv_istore (lv' := [(6, .int r4), (5, .int r2), (0, .ref hPl), (1, .int p0), (2, .int p1), (3, .int p2), (4, .int p3)]) hx hb dX1_signAlong_46 hl (by decide) rfl (fun ls hl => ?_)
  refine lv_iload_n hx hb dX1_signAlong_48 rfl (lv_at hl 3 rfl) ?_
  refine kc_i (va_runS (As := [.int p0]) (rest := []) ⟨hx, hb, hml, hown, hts⟩ (k_X1_sense l D cy p0 _ _ hw) (va_cwS 1 hts (gS mw_16_6 mw_16_7 mw_2_3 mw_16_8) rfl rfl rfl (by decide +kernel) ⟨Nat.le_of_ble_eq_true rfl, Nat.le_of_ble_eq_true rfl⟩) (fPre hN hK hP hD [] rfl rfl _) rfl rfl hl.1 rfl (lv_room (Nat.le_of_ble_eq_true rfl)) dX1_signAlong_49 ⟨Nat.zero_le _, Nat.zero_le _⟩) (fun r5 hw => ?_)
  refine lv_iload hx hb dX1_signAlong_52 (lv_at hl 1 rfl) ?_
  refine lv_imul hx hb dX1_signAlong_54 ?_
  refine lv_iload hx hb dX1_signAlong_55 (lv_at hl 0 rfl) ?_
  refine lv_imul hx hb dX1_signAlong_57 ?_
  exact W.iret (v := (r5 * r2) * r4) hx hb hr (fun t ht hW => ⟨(r5 * r2) * r4, rfl, hw, ht⟩) (fun q h => by cases h) dX1_signAlong_58
set_option maxHeartbeats 4000000 in
set_option maxRecDepth 100000 in
theorem k_X1_lookAlong (l : Launch) (D : va_G) (cy : Nat → ClassId) (hPl hPl_lesser hPl_greater hPl_axisOf hPl_axisXs hPl_axisYs hPl_axisZs hPl_axisSquares hPl_poleSigns hPo hPo_xs hPo_ys hPo_zs hPo_countUpTo np nq : Nat) (Pl_poleCount : Int32) (Pl_pairCount : Int32) (Pl_lesser : Nat → Int32) (Pl_greater : Nat → Int32) (Pl_axisOf : Nat → Int32) (Pl_axisXs : Nat → Int32) (Pl_axisYs : Nat → Int32) (Pl_axisZs : Nat → Int32) (Pl_axisSquares : Nat → Int32) (Pl_axisCount : Int32) (Pl_poleSigns : Nat → Int32) (Po_xs : Nat → Int32) (Po_ys : Nat → Int32) (Po_zs : Nat → Int32) (Po_countUpTo : Nat → Int32) (Po_count : Int32) (p0 : Int32) (p1 : Int32) (p2 : Int32) (sz : Nat) (Q : (Nat → Int32) → Prop) (hw : wp_X1_lookAlong p0 p1 p2 np nq Pl_poleCount Pl_poleSigns Po_xs Po_ys Po_zs Q) : Met l yX1_lookAlong (wA yX1_lookAlong cX1_lookAlong 5 none) { frames := 1, cells := 0, slots := 0, locals := 24 } (kPc [.ref hPl, .int p0, .int p1, .int p2] D cy (List.flatten [wPl cy hPl hPl_lesser hPl_greater hPl_axisOf hPl_axisXs hPl_axisYs hPl_axisZs hPl_axisSquares hPl_poleSigns hPo np nq Pl_poleCount Pl_pairCount Pl_lesser Pl_greater Pl_axisOf Pl_axisXs Pl_axisYs Pl_axisZs Pl_axisSquares Pl_axisCount Pl_poleSigns, wPo cy hPo hPo_xs hPo_ys hPo_zs hPo_countUpTo Po_xs Po_ys Po_zs Po_countUpTo Po_count]) sz) (va_Qv (fun (u : (Nat → Int32)) => Q u) (fun u t => kB D cy (va_A (List.flatten [wPl cy hPl hPl_lesser hPl_greater hPl_axisOf hPl_axisXs hPl_axisYs hPl_axisZs hPl_axisSquares hPl_poleSigns hPo np nq Pl_poleCount Pl_pairCount Pl_lesser Pl_greater Pl_axisOf Pl_axisXs Pl_axisYs Pl_axisZs Pl_axisSquares Pl_axisCount Pl_poleSigns, wPo cy hPo hPo_xs hPo_ys hPo_zs hPo_countUpTo Po_xs Po_ys Po_zs Po_countUpTo Po_count]) sz) (List.flatten [wPl cy hPl hPl_lesser hPl_greater hPl_axisOf hPl_axisXs hPl_axisYs hPl_axisZs hPl_axisSquares hPl_poleSigns hPo np nq Pl_poleCount Pl_pairCount Pl_lesser Pl_greater Pl_axisOf Pl_axisXs Pl_axisYs Pl_axisZs Pl_axisSquares Pl_axisCount u, wPo cy hPo hPo_xs hPo_ys hPo_zs hPo_countUpTo Po_xs Po_ys Po_zs Po_countUpTo Po_count]) t) (va_A (List.flatten [wPl cy hPl hPl_lesser hPl_greater hPl_axisOf hPl_axisXs hPl_axisYs hPl_axisZs hPl_axisSquares hPl_poleSigns hPo np nq Pl_poleCount Pl_pairCount Pl_lesser Pl_greater Pl_axisOf Pl_axisXs Pl_axisYs Pl_axisZs Pl_axisSquares Pl_axisCount Pl_poleSigns, wPo cy hPo hPo_xs hPo_ys hPo_zs hPo_countUpTo Po_xs Po_ys Po_zs Po_countUpTo Po_count]) sz)) 0 0 (va_A (List.flatten [wPl cy hPl hPl_lesser hPl_greater hPl_axisOf hPl_axisXs hPl_axisYs hPl_axisZs hPl_axisSquares hPl_poleSigns hPo np nq Pl_poleCount Pl_pairCount Pl_lesser Pl_greater Pl_axisOf Pl_axisXs Pl_axisYs Pl_axisZs Pl_axisSquares Pl_axisCount Pl_poleSigns, wPo cy hPo hPo_xs hPo_ys hPo_zs hPo_countUpTo Po_xs Po_ys Po_zs Po_countUpTo Po_count]) sz) := by
  refine Met.ofW (cc := cX1_lookAlong) (maxL := 5) (ret := none) (by decide) rfl ?_
  intro p e s m args below meth c s₁ B hml hv
  obtain ⟨rfl, hsz, hN, hP, hK, hD0⟩ := hv
  have hx := B.exec
  have hb := B.bytes
  have hr := B.returns
  have hts0 := atoms_spec (ws := wA yX1_lookAlong cX1_lookAlong 5 none) B.pre
  have hts := fun w (h : w ∈ wsL_law) => hts0 w (List.mem_cons_of_mem _ h)
  have hown : s.vm.findClass RX1 = some m.cls := findClass_of_methodNamed B.named
  have hlocks := B.notSynchronized
  subst hsz
  have hD := hD0.self (sz := s.heap.size)
  generalize hAe : va_A (List.flatten [wPl cy hPl hPl_lesser hPl_greater hPl_axisOf hPl_axisXs hPl_axisYs hPl_axisZs hPl_axisSquares hPl_poleSigns hPo np nq Pl_poleCount Pl_pairCount Pl_lesser Pl_greater Pl_axisOf Pl_axisXs Pl_axisYs Pl_axisZs Pl_axisSquares Pl_axisCount Pl_poleSigns, wPo cy hPo hPo_xs hPo_ys hPo_zs hPo_countUpTo Po_xs Po_ys Po_zs Po_countUpTo Po_count]) s.heap.size = A at hD ⊢
  have hA : ∀ q : Nat, s.heap.size ≤ q → A q := fun q h => by rw [← hAe]; exact Or.inr h
  have hS : va_S A s.heap s.heap [] := va_S.rf
  have hP : va_P D vwCl (List.flatten [wPl cy hPl hPl_lesser hPl_greater hPl_axisOf hPl_axisXs hPl_axisYs hPl_axisZs hPl_axisSquares hPl_poleSigns hPo np nq Pl_poleCount Pl_pairCount Pl_lesser Pl_greater Pl_axisOf Pl_axisXs Pl_axisYs Pl_axisZs Pl_axisSquares Pl_axisCount Pl_poleSigns, wPo cy hPo hPo_xs hPo_ys hPo_zs hPo_countUpTo Po_xs Po_ys Po_zs Po_countUpTo Po_count]) s.heap := hP
  have hl := lv_entry ([.ref hPl, .int p0, .int p1, .int p2]) (n := 5) (Nat.le_of_ble_eq_true rfl)
  rw [lg_entry_eq]
  generalize (lg_sl ([.ref hPl, .int p0, .int p1, .int p2]) ++ List.replicate (5 - (lg_sl ([.ref hPl, .int p0, .int p1, .int p2])).length) Slot.unset).toArray = ls at hl ⊢
  have hl : lv_has ls 5 [(0, .ref hPl), (1, .int p0), (2, .int p1), (3, .int p2)] := hl
  unfold wp_X1_lookAlong at hw
  refine lv_iconst (v := 0) hx hb dX1_lookAlong_0 (by decide) ?_
  refine lv_istore (lv' := [(4, .int 0), (0, .ref hPl), (1, .int p0), (2, .int p1), (3, .int p2)]) hx hb dX1_lookAlong_1 hl (by decide) rfl (fun ls hl => ?_)
  obtain ⟨n3, hw⟩ := hw
  have kl3 : ∀ (K3_40 : Int32 → (Nat → Int32) → Prop) (hk3_40 : ∀ (y4_3 : Int32) (Pl_poleSigns_v_3 : Nat → Int32) (H : Heap) (locs : List Loc) (ls : Array Slot), K3_40 y4_3 Pl_poleSigns_v_3 → va_P D vwCl (List.flatten [wPl cy hPl hPl_lesser hPl_greater hPl_axisOf hPl_axisXs hPl_axisYs hPl_axisZs hPl_axisSquares hPl_poleSigns hPo np nq Pl_poleCount Pl_pairCount Pl_lesser Pl_greater Pl_axisOf Pl_axisXs Pl_axisYs Pl_axisZs Pl_axisSquares Pl_axisCount Pl_poleSigns_v_3, wPo cy hPo hPo_xs hPo_ys hPo_zs hPo_countUpTo Po_xs Po_ys Po_zs Po_countUpTo Po_count]) H → va_D A (List.flatten [wPl cy hPl hPl_lesser hPl_greater hPl_axisOf hPl_axisXs hPl_axisYs hPl_axisZs hPl_axisSquares hPl_poleSigns hPo np nq Pl_poleCount Pl_pairCount Pl_lesser Pl_greater Pl_axisOf Pl_axisXs Pl_axisYs Pl_axisZs Pl_axisSquares Pl_axisCount Pl_poleSigns_v_3, wPo cy hPo hPo_xs hPo_ys hPo_zs hPo_countUpTo Po_xs Po_ys Po_zs Po_countUpTo Po_count]) → va_S A s.heap H locs → lv_has ls 5 [(0, .ref hPl), (1, .int p0), (2, .int p1), (3, .int p2), (4, .int y4_3)] → W p l e (headSpec (wA yX1_lookAlong cX1_lookAlong 5 none) { frames := 1, cells := 0, slots := 0, locals := 24 }).room s m #[.ref hPl, .int p0, .int p1, .int p2] below meth c H locs 0 0 (MQ below (va_Qv (fun (u : (Nat → Int32)) => Q u) (fun u t => kB D cy A (List.flatten [wPl cy hPl hPl_lesser hPl_greater hPl_axisOf hPl_axisXs hPl_axisYs hPl_axisZs hPl_axisSquares hPl_poleSigns hPo np nq Pl_poleCount Pl_pairCount Pl_lesser Pl_greater Pl_axisOf Pl_axisXs Pl_axisYs Pl_axisZs Pl_axisSquares Pl_axisCount u, wPo cy hPo hPo_xs hPo_ys hPo_zs hPo_countUpTo Po_xs Po_ys Po_zs Po_countUpTo Po_count]) t) A) #[.ref hPl, .int p0, .int p1, .int p2] s 0 0 A) (F0 m 40 ls [])) (n : Nat) (y4_3 : Int32) (Pl_poleSigns_v_3 : Nat → Int32) (H : Heap) (locs : List Loc) (ls : Array Slot), wp_X1_lookAlong_L3 p0 p1 p2 nq Pl_poleCount Po_xs Po_ys Po_zs K3_40 n y4_3 Pl_poleSigns_v_3 → va_P D vwCl (List.flatten [wPl cy hPl hPl_lesser hPl_greater hPl_axisOf hPl_axisXs hPl_axisYs hPl_axisZs hPl_axisSquares hPl_poleSigns hPo np nq Pl_poleCount Pl_pairCount Pl_lesser Pl_greater Pl_axisOf Pl_axisXs Pl_axisYs Pl_axisZs Pl_axisSquares Pl_axisCount Pl_poleSigns_v_3, wPo cy hPo hPo_xs hPo_ys hPo_zs hPo_countUpTo Po_xs Po_ys Po_zs Po_countUpTo Po_count]) H → va_D A (List.flatten [wPl cy hPl hPl_lesser hPl_greater hPl_axisOf hPl_axisXs hPl_axisYs hPl_axisZs hPl_axisSquares hPl_poleSigns hPo np nq Pl_poleCount Pl_pairCount Pl_lesser Pl_greater Pl_axisOf Pl_axisXs Pl_axisYs Pl_axisZs Pl_axisSquares Pl_axisCount Pl_poleSigns_v_3, wPo cy hPo hPo_xs hPo_ys hPo_zs hPo_countUpTo Po_xs Po_ys Po_zs Po_countUpTo Po_count]) → va_S A s.heap H locs → lv_has ls 5 [(0, .ref hPl), (1, .int p0), (2, .int p1), (3, .int p2), (4, .int y4_3)] → W p l e (headSpec (wA yX1_lookAlong cX1_lookAlong 5 none) { frames := 1, cells := 0, slots := 0, locals := 24 }).room s m #[.ref hPl, .int p0, .int p1, .int p2] below meth c H locs 0 0 (MQ below (va_Qv (fun (u : (Nat → Int32)) => Q u) (fun u t => kB D cy A (List.flatten [wPl cy hPl hPl_lesser hPl_greater hPl_axisOf hPl_axisXs hPl_axisYs hPl_axisZs hPl_axisSquares hPl_poleSigns hPo np nq Pl_poleCount Pl_pairCount Pl_lesser Pl_greater Pl_axisOf Pl_axisXs Pl_axisYs Pl_axisZs Pl_axisSquares Pl_axisCount u, wPo cy hPo hPo_xs hPo_ys hPo_zs hPo_countUpTo Po_xs Po_ys Po_zs Po_countUpTo Po_count]) t) A) #[.ref hPl, .int p0, .int p1, .int p2] s 0 0 A) (F0 m 3 ls []) := by
    intro K3_40 hk3_40 n
    induction n with
    | zero =>
      intro y4_3 Pl_poleSigns_v_3 H locs ls hw
      exact hw.elim
    | succ n ih3 =>
      intro y4_3 Pl_poleSigns_v_3 H locs ls hw hP hD hS hl
      unfold wp_X1_lookAlong_L3 at hw
      refine lv_iload hx hb dX1_lookAlong_3 (lv_at hl 4 rfl) ?_
      refine lv_aload_n hx hb dX1_lookAlong_5 rfl (lv_at hl 0 rfl) ?_
      refine va_get (D := D) (ci := 1) (v := .int Pl_poleCount) (C := RX1) (T := TX1) (N := 12) hx hb hts inlX1 hown hK hP 0 rfl rfl 1 (by decide) (hts (.fieldLink RX1 15 "SquarePlanes$Planes" "poleCount" "I") mw_4_6) (fun _ h9 => h9) rfl dX1_lookAlong_6 ?_
      refine lv_icmp_ge (tgt := 40) hx hb dX1_lookAlong_9 (by decide) (fun c3_3 => ?_) (fun c3_3 => ?_)
      · have hw := hw.1 c3_3
        exact hk3_40 y4_3 Pl_poleSigns_v_3 _ _ ls hw hP hD hS (lv_sub hl [0, 1, 2, 3, 4] rfl)
      · have hw := hw.2 c3_3
        refine lv_aload_n hx hb dX1_lookAlong_12 rfl (lv_at hl 0 rfl) ?_
        refine va_get (D := D) (ci := 1) (v := .ref hPl_poleSigns) (C := RX1) (T := TX1) (N := 12) hx hb hts inlX1 hown hK hP 0 rfl rfl 11 (by decide) (hts (.fieldLink RX1 48 "SquarePlanes$Planes" "poleSigns" "[I") mw_4_15) (fun _ h9 => h9) rfl dX1_lookAlong_13 ?_
        refine lv_iload hx hb dX1_lookAlong_16 (lv_at hl 4 rfl) ?_
        refine lv_aload_n hx hb dX1_lookAlong_18 rfl (lv_at hl 0 rfl) ?_
        refine va_get (D := D) (ci := 1) (v := .ref hPo) (C := RX1) (T := TX1) (N := 12) hx hb hts inlX1 hown hK hP 0 rfl rfl 0 (by decide) (hts (.fieldLink RX1 9 "SquarePlanes$Planes" "poles" "LSquarePlanes$Poles;") mw_4_5) (fun _ h9 => h9) rfl dX1_lookAlong_19 ?_
        refine lv_iload hx hb dX1_lookAlong_22 (lv_at hl 4 rfl) ?_
        refine lv_iload_n hx hb dX1_lookAlong_24 rfl (lv_at hl 1 rfl) ?_
        refine lv_iload_n hx hb dX1_lookAlong_25 rfl (lv_at hl 2 rfl) ?_
        refine lv_iload_n hx hb dX1_lookAlong_26 rfl (lv_at hl 3 rfl) ?_
        refine kc_i (va_runV (As := [.int y4_3, .int p0, .int p1, .int p2]) (rest := [.int y4_3, .ref hPl_poleSigns]) ⟨hx, hb, hml, hown, hts⟩ (k_X2_dot l D cy hPo hPo_xs hPo_ys hPo_zs hPo_countUpTo Po_xs Po_ys Po_zs Po_countUpTo Po_count y4_3 p0 p1 p2 _ _ hw) (cwV 4 hts (gV mw_14_22 mw_5_0 mw_5_1 mw_1_18 mw_5_2) rfl rfl rfl (by decide +kernel) ⟨Nat.le_of_ble_eq_true rfl, Nat.le_of_ble_eq_true rfl⟩) (fPreV hN hK hP hD [1] rfl rfl 9 (ci := 2) rfl rfl rfl _) rfl rfl hl.1 rfl (lv_room (Nat.le_of_ble_eq_true rfl)) dX1_lookAlong_27 ⟨Nat.zero_le _, Nat.zero_le _⟩) (fun r1_3 hw => ?_)
        refine kc_i (va_runSN (As := [.int r1_3]) (rest := [.int y4_3, .ref hPl_poleSigns]) ⟨hx, hb, hml, hown, hts⟩ (k_X5_signOf l D cy r1_3 _ _ hw) ⟨va_cnB 1 hts (gA mw_15_0) rfl rfl rfl hN.2.2.2.1 (hts (.initialized RX5) mw_1_2) (by decide +kernel) ⟨Nat.le_of_ble_eq_true rfl, Nat.le_of_ble_eq_true rfl⟩, hts (.static yX5_signOf) mw_14_23, trivial⟩ (fPre hN hK hP hD [] rfl rfl _) rfl rfl hl.1 rfl (lv_room (Nat.le_of_ble_eq_true rfl)) dX1_lookAlong_30 ⟨Nat.zero_le _, Nat.zero_le _⟩) (fun r2_3 hw => ?_)
        refine va_iast hx hb hK hP hD hS 8 0 rfl rfl hw.1 dX1_lookAlong_33 (fun H locs hP hD hS => ?_)
        have hw := hw.2
        have hP : va_P D vwCl (List.flatten [wPl cy hPl hPl_lesser hPl_greater hPl_axisOf hPl_axisXs hPl_axisYs hPl_axisZs hPl_axisSquares hPl_poleSigns hPo np nq Pl_poleCount Pl_pairCount Pl_lesser Pl_greater Pl_axisOf Pl_axisXs Pl_axisYs Pl_axisZs Pl_axisSquares Pl_axisCount (upd Pl_poleSigns_v_3 y4_3.toNatClampNeg r2_3), wPo cy hPo hPo_xs hPo_ys hPo_zs hPo_countUpTo Po_xs Po_ys Po_zs Po_countUpTo Po_count]) H := hP
        have hD : va_D A (List.flatten [wPl cy hPl hPl_lesser hPl_greater hPl_axisOf hPl_axisXs hPl_axisYs hPl_axisZs hPl_axisSquares hPl_poleSigns hPo np nq Pl_poleCount Pl_pairCount Pl_lesser Pl_greater Pl_axisOf Pl_axisXs Pl_axisYs Pl_axisZs Pl_axisSquares Pl_axisCount (upd Pl_poleSigns_v_3 y4_3.toNatClampNeg r2_3), wPo cy hPo hPo_xs hPo_ys hPo_zs hPo_countUpTo Po_xs Po_ys Po_zs Po_countUpTo Po_count]) := hD
        refine lv_iinc (v := y4_3 + 1) (lv' := [(4, .int (y4_3 + 1)), (0, .ref hPl), (1, .int p0), (2, .int p1), (3, .int p2)]) hx hb dX1_lookAlong_34 hl (k := 4) rfl rfl (by decide) rfl (fun ls hl => ?_)
        refine lv_goto (tgt := 3) hx hb dX1_lookAlong_37 (by decide) ?_
        exact ih3 (y4_3 + 1) (upd Pl_poleSigns_v_3 y4_3.toNatClampNeg r2_3) _ _ ls hw hP hD hS (lv_sub hl [1, 2, 3, 4, 0] rfl)
  refine kl3 _ ?_ n3 0 Pl_poleSigns _ _ ls hw hP hD hS (lv_sub hl [1, 2, 3, 4, 0] rfl)
  · intro y4_3 Pl_poleSigns_v_3 H locs ls hw hP hD hS hl
    exact W.vret hx hb hr (fun t ht hW => ⟨⟨Pl_poleSigns_v_3, rfl, hw, ⟨by rw [ht]; exact hP, va_K.moved hW.alike hK, hD⟩⟩, hS.F ht⟩) hS.2.2 dX1_lookAlong_40
set_option maxHeartbeats 4000000 in
set_option maxRecDepth 100000 in
theorem k_X1_seenSign (l : Launch) (D : va_G) (cy : Nat → ClassId) (hPl hPl_lesser hPl_greater hPl_axisOf hPl_axisXs hPl_axisYs hPl_axisZs hPl_axisSquares hPl_poleSigns hPo np nq : Nat) (Pl_poleCount : Int32) (Pl_pairCount : Int32) (Pl_lesser : Nat → Int32) (Pl_greater : Nat → Int32) (Pl_axisOf : Nat → Int32) (Pl_axisXs : Nat → Int32) (Pl_axisYs : Nat → Int32) (Pl_axisZs : Nat → Int32) (Pl_axisSquares : Nat → Int32) (Pl_axisCount : Int32) (Pl_poleSigns : Nat → Int32) (p0 : Int32) (sz : Nat) (Q : Int32 → Prop) (hw : wp_X1_seenSign p0 np nq Pl_lesser Pl_greater Pl_poleSigns Q) : Met l yX1_seenSign (wA yX1_seenSign cX1_seenSign 2 (some .int)) { frames := 1, cells := 0, slots := 0, locals := 21 } (kPc [.ref hPl, .int p0] D cy (List.flatten [wPl cy hPl hPl_lesser hPl_greater hPl_axisOf hPl_axisXs hPl_axisYs hPl_axisZs hPl_axisSquares hPl_poleSigns hPo np nq Pl_poleCount Pl_pairCount Pl_lesser Pl_greater Pl_axisOf Pl_axisXs Pl_axisYs Pl_axisZs Pl_axisSquares Pl_axisCount Pl_poleSigns]) sz) (kSi Q) 0 0 (fun _ => False) := by
  refine Met.ofW (cc := cX1_seenSign) (maxL := 2) (ret := (some .int)) (by decide) rfl ?_
  intro p e s m args below meth c s₁ B hml hv
  obtain ⟨rfl, hsz, hN, hP, hK, hD0⟩ := hv
  have hx := B.exec
  have hb := B.bytes
  have hr := B.returns
  have hts0 := atoms_spec (ws := wA yX1_seenSign cX1_seenSign 2 (some .int)) B.pre
  have hts := fun w (h : w ∈ wsL_law) => hts0 w (List.mem_cons_of_mem _ h)
  have hown : s.vm.findClass RX1 = some m.cls := findClass_of_methodNamed B.named
  have hlocks := B.notSynchronized
  subst hsz
  have hD := hD0
  have hl := lv_entry ([.ref hPl, .int p0]) (n := 2) (Nat.le_of_ble_eq_true rfl)
  rw [lg_entry_eq]
  generalize (lg_sl ([.ref hPl, .int p0]) ++ List.replicate (2 - (lg_sl ([.ref hPl, .int p0])).length) Slot.unset).toArray = ls at hl ⊢
  have hl : lv_has ls 2 [(0, .ref hPl), (1, .int p0)] := hl
  unfold wp_X1_seenSign at hw
  refine lv_iload_n hx hb dX1_seenSign_0 rfl (lv_at hl 1 rfl) ?_
  refine kc_i (va_runS (As := [.int p0]) (rest := []) ⟨hx, hb, hml, hown, hts⟩ (k_X1_sense l D cy p0 _ _ hw) (va_cwS 1 hts (gS mw_16_6 mw_16_7 mw_2_3 mw_16_8) rfl rfl rfl (by decide +kernel) ⟨Nat.le_of_ble_eq_true rfl, Nat.le_of_ble_eq_true rfl⟩) (fPre hN hK hP hD [] rfl rfl _) rfl rfl hl.1 rfl (lv_room (Nat.le_of_ble_eq_true rfl)) dX1_seenSign_1 ⟨Nat.zero_le _, Nat.zero_le _⟩) (fun r1 hw => ?_)
  refine lv_aload_n hx hb dX1_seenSign_4 rfl (lv_at hl 0 rfl) ?_
  refine lv_iload_n hx hb dX1_seenSign_5 rfl (lv_at hl 1 rfl) ?_
  refine lv_iconst (v := 2) hx hb dX1_seenSign_6 (by decide) ?_
  refine lv_idiv hx hb dX1_seenSign_7 (by decide) ?_
  refine kc_i (va_runV (As := [.int (p0 / 2)]) (rest := [.int r1]) ⟨hx, hb, hml, hown, hts⟩ (k_X1_seenPairSign l D cy hPl hPl_lesser hPl_greater hPl_axisOf hPl_axisXs hPl_axisYs hPl_axisZs hPl_axisSquares hPl_poleSigns hPo np nq Pl_poleCount Pl_pairCount Pl_lesser Pl_greater Pl_axisOf Pl_axisXs Pl_axisYs Pl_axisZs Pl_axisSquares Pl_axisCount Pl_poleSigns (p0 / 2) _ _ hw) (cwV 1 hts (gV mw_16_9 mw_15_2 mw_15_3 mw_2_3 mw_15_4) rfl rfl rfl (by decide +kernel) ⟨Nat.le_of_ble_eq_true rfl, Nat.le_of_ble_eq_true rfl⟩) (fPreV hN hK hP hD [0] rfl rfl 0 (ci := 1) rfl rfl rfl _) rfl rfl hl.1 rfl (lv_room (Nat.le_of_ble_eq_true rfl)) dX1_seenSign_8 ⟨Nat.zero_le _, Nat.zero_le _⟩) (fun r2 hw => ?_)
  refine lv_imul hx hb dX1_seenSign_11 ?_
  exact W.iret (v := r1 * r2) hx hb hr (fun t ht hW => ⟨r1 * r2, rfl, hw, ht⟩) (fun q h => by cases h) dX1_seenSign_12
set_option maxHeartbeats 4000000 in
set_option maxRecDepth 100000 in
theorem k_X1_apartUpper (l : Launch) (D : va_G) (cy : Nat → ClassId) (hPl hPl_lesser hPl_greater hPl_axisOf hPl_axisXs hPl_axisYs hPl_axisZs hPl_axisSquares hPl_poleSigns hPo np nq : Nat) (Pl_poleCount : Int32) (Pl_pairCount : Int32) (Pl_lesser : Nat → Int32) (Pl_greater : Nat → Int32) (Pl_axisOf : Nat → Int32) (Pl_axisXs : Nat → Int32) (Pl_axisYs : Nat → Int32) (Pl_axisZs : Nat → Int32) (Pl_axisSquares : Nat → Int32) (Pl_axisCount : Int32) (Pl_poleSigns : Nat → Int32) (p0 : Int32) (p1 : Int32) (sz : Nat) (Q : Int32 → Prop) (hw : wp_X1_apartUpper p0 p1 np nq Pl_axisXs Pl_axisYs Pl_axisZs Pl_axisSquares Q) : Met l yX1_apartUpper (wA yX1_apartUpper cX1_apartUpper 4 (some .int)) { frames := 1, cells := 0, slots := 0, locals := 22 } (kPc [.ref hPl, .int p0, .int p1] D cy (List.flatten [wPl cy hPl hPl_lesser hPl_greater hPl_axisOf hPl_axisXs hPl_axisYs hPl_axisZs hPl_axisSquares hPl_poleSigns hPo np nq Pl_poleCount Pl_pairCount Pl_lesser Pl_greater Pl_axisOf Pl_axisXs Pl_axisYs Pl_axisZs Pl_axisSquares Pl_axisCount Pl_poleSigns]) sz) (kSi Q) 0 0 (fun _ => False) := by
  refine Met.ofW (cc := cX1_apartUpper) (maxL := 4) (ret := (some .int)) (by decide) rfl ?_
  intro p e s m args below meth c s₁ B hml hv
  obtain ⟨rfl, hsz, hN, hP, hK, hD0⟩ := hv
  have hx := B.exec
  have hb := B.bytes
  have hr := B.returns
  have hts0 := atoms_spec (ws := wA yX1_apartUpper cX1_apartUpper 4 (some .int)) B.pre
  have hts := fun w (h : w ∈ wsL_law) => hts0 w (List.mem_cons_of_mem _ h)
  have hown : s.vm.findClass RX1 = some m.cls := findClass_of_methodNamed B.named
  have hlocks := B.notSynchronized
  subst hsz
  have hD := hD0
  have hl := lv_entry ([.ref hPl, .int p0, .int p1]) (n := 4) (Nat.le_of_ble_eq_true rfl)
  rw [lg_entry_eq]
  generalize (lg_sl ([.ref hPl, .int p0, .int p1]) ++ List.replicate (4 - (lg_sl ([.ref hPl, .int p0, .int p1])).length) Slot.unset).toArray = ls at hl ⊢
  have hl : lv_has ls 4 [(0, .ref hPl), (1, .int p0), (2, .int p1)] := hl
  unfold wp_X1_apartUpper at hw
  refine lv_aload_n hx hb dX1_apartUpper_0 rfl (lv_at hl 0 rfl) ?_
  refine lv_iload_n hx hb dX1_apartUpper_1 rfl (lv_at hl 1 rfl) ?_
  refine lv_iload_n hx hb dX1_apartUpper_2 rfl (lv_at hl 2 rfl) ?_
  refine kc_i (va_runV (As := [.int p0, .int p1]) (rest := []) ⟨hx, hb, hml, hown, hts⟩ (k_X1_axisDot l D cy hPl hPl_lesser hPl_greater hPl_axisOf hPl_axisXs hPl_axisYs hPl_axisZs hPl_axisSquares hPl_poleSigns hPo np nq Pl_poleCount Pl_pairCount Pl_lesser Pl_greater Pl_axisOf Pl_axisXs Pl_axisYs Pl_axisZs Pl_axisSquares Pl_axisCount Pl_poleSigns p0 p1 _ _ hw) (cwV 2 hts (gV mw_24_14 mw_24_15 mw_24_16 mw_2_3 mw_24_17) rfl rfl rfl (by decide +kernel) ⟨Nat.le_of_ble_eq_true rfl, Nat.le_of_ble_eq_true rfl⟩) (fPreV hN hK hP hD [0] rfl rfl 0 (ci := 1) rfl rfl rfl _) rfl rfl hl.1 rfl (lv_room (Nat.le_of_ble_eq_true rfl)) dX1_apartUpper_3 ⟨Nat.zero_le _, Nat.zero_le _⟩) (fun r1 hw => ?_)
  refine lv_istore_n (lv' := [(3, .int r1), (0, .ref hPl), (1, .int p0), (2, .int p1)]) hx hb dX1_apartUpper_6 rfl hl (by decide) rfl (fun ls hl => ?_)
  refine lv_aload_n hx hb dX1_apartUpper_7 rfl (lv_at hl 1 rfl) ?_
  refine lv_iload_n hx hb dX1_apartUpper_8 rfl (lv_at hl 2 rfl) ?_
  refine lv_iload_n hx hb dX1_apartUpper_9 rfl (lv_at hl 3 rfl) ?_
  refine kc_i (va_runV (As := [.int p0, .int p1]) (rest := []) ⟨hx, hb, hml, hown, hts⟩ (k_X1_apartLower l D cy hPl hPl_lesser hPl_greater hPl_axisOf hPl_axisXs hPl_axisYs hPl_axisZs hPl_axisSquares hPl_poleSigns hPo np nq Pl_poleCount Pl_pairCount Pl_lesser Pl_greater Pl_axisOf Pl_axisXs Pl_axisYs Pl_axisZs Pl_axisSquares Pl_axisCount Pl_poleSigns p0 p1 _ _ hw) (cwV 2 hts (gV mw_24_18 mw_24_19 mw_24_20 mw_2_3 mw_24_21) rfl rfl rfl (by decide +kernel) ⟨Nat.le_of_ble_eq_true rfl, Nat.le_of_ble_eq_true rfl⟩) (fPreV hN hK hP hD [0] rfl rfl 0 (ci := 1) rfl rfl rfl _) rfl rfl hl.1 rfl (lv_room (Nat.le_of_ble_eq_true rfl)) dX1_apartUpper_10 ⟨Nat.zero_le _, Nat.zero_le _⟩) (fun r2 hw => ?_)
  refine lv_iload_n hx hb dX1_apartUpper_13 rfl (lv_at hl 0 rfl) ?_
  refine lv_iload_n hx hb dX1_apartUpper_14 rfl (lv_at hl 0 rfl) ?_
  refine lv_imul hx hb dX1_apartUpper_15 ?_
  refine lv_isub hx hb dX1_apartUpper_16 ?_
  exact W.iret (v := r2 - (r1 * r1)) hx hb hr (fun t ht hW => ⟨r2 - (r1 * r1), rfl, hw, ht⟩) (fun q h => by cases h) dX1_apartUpper_17
set_option maxHeartbeats 4000000 in
set_option maxRecDepth 100000 in
theorem k_X2_areSquare (l : Launch) (D : va_G) (cy : Nat → ClassId) (hPo hPo_xs hPo_ys hPo_zs hPo_countUpTo : Nat) (Po_xs : Nat → Int32) (Po_ys : Nat → Int32) (Po_zs : Nat → Int32) (Po_countUpTo : Nat → Int32) (Po_count : Int32) (p0 : Int32) (p1 : Int32) (sz : Nat) (Q : Int32 → Prop) (hw : wp_X2_areSquare p0 p1 Po_xs Po_ys Po_zs Q) : Met l yX2_areSquare (wA yX2_areSquare cX2_areSquare 3 (some .boolean)) { frames := 1, cells := 0, slots := 0, locals := 24 } (kPc [.ref hPo, .int p0, .int p1] D cy (List.flatten [wPo cy hPo hPo_xs hPo_ys hPo_zs hPo_countUpTo Po_xs Po_ys Po_zs Po_countUpTo Po_count]) sz) (kSi Q) 0 0 (fun _ => False) := by
  refine Met.ofW (cc := cX2_areSquare) (maxL := 3) (ret := (some .boolean)) (by decide) rfl ?_
  intro p e s m args below meth c s₁ B hml hv
  obtain ⟨rfl, hsz, hN, hP, hK, hD0⟩ := hv
  have hx := B.exec
  have hb := B.bytes
  have hr := B.returns
  have hts0 := atoms_spec (ws := wA yX2_areSquare cX2_areSquare 3 (some .boolean)) B.pre
  have hts := fun w (h : w ∈ wsL_law) => hts0 w (List.mem_cons_of_mem _ h)
  have hown : s.vm.findClass RX2 = some m.cls := findClass_of_methodNamed B.named
  have hlocks := B.notSynchronized
  subst hsz
  have hD := hD0
  have hl := lv_entry ([.ref hPo, .int p0, .int p1]) (n := 3) (Nat.le_of_ble_eq_true rfl)
  rw [lg_entry_eq]
  generalize (lg_sl ([.ref hPo, .int p0, .int p1]) ++ List.replicate (3 - (lg_sl ([.ref hPo, .int p0, .int p1])).length) Slot.unset).toArray = ls at hl ⊢
  have hl : lv_has ls 3 [(0, .ref hPo), (1, .int p0), (2, .int p1)] := hl
  unfold wp_X2_areSquare at hw
  refine lv_aload_n hx hb dX2_areSquare_0 rfl (lv_at hl 0 rfl) ?_
  refine lv_iload_n hx hb dX2_areSquare_1 rfl (lv_at hl 1 rfl) ?_
  refine lv_aload_n hx hb dX2_areSquare_2 rfl (lv_at hl 0 rfl) ?_
  refine va_get (D := D) (ci := 2) (v := .ref hPo_xs) (C := RX2) (T := TX2) (N := 5) hx hb hts inlX2 hown hK hP 0 rfl rfl 0 (by decide) (hts (.fieldLink RX2 9 "SquarePlanes$Poles" "xs" "[I") mw_2_23) (fun _ h9 => h9) rfl dX2_areSquare_3 ?_
  refine lv_iload_n hx hb dX2_areSquare_6 rfl (lv_at hl 2 rfl) ?_
  refine va_iald hx hb hK hP 1 0 rfl rfl hw.1 dX2_areSquare_7 ?_
  have hw := hw.2
  refine lv_aload_n hx hb dX2_areSquare_8 rfl (lv_at hl 0 rfl) ?_
  refine va_get (D := D) (ci := 2) (v := .ref hPo_ys) (C := RX2) (T := TX2) (N := 5) hx hb hts inlX2 hown hK hP 0 rfl rfl 1 (by decide) (hts (.fieldLink RX2 15 "SquarePlanes$Poles" "ys" "[I") mw_3_0) (fun _ h9 => h9) rfl dX2_areSquare_9 ?_
  refine lv_iload_n hx hb dX2_areSquare_12 rfl (lv_at hl 2 rfl) ?_
  refine va_iald hx hb hK hP 2 0 rfl rfl hw.1 dX2_areSquare_13 ?_
  have hw := hw.2
  refine lv_aload_n hx hb dX2_areSquare_14 rfl (lv_at hl 0 rfl) ?_
  refine va_get (D := D) (ci := 2) (v := .ref hPo_zs) (C := RX2) (T := TX2) (N := 5) hx hb hts inlX2 hown hK hP 0 rfl rfl 2 (by decide) (hts (.fieldLink RX2 18 "SquarePlanes$Poles" "zs" "[I") mw_3_1) (fun _ h9 => h9) rfl dX2_areSquare_15 ?_
  refine lv_iload_n hx hb dX2_areSquare_18 rfl (lv_at hl 2 rfl) ?_
  refine va_iald hx hb hK hP 3 0 rfl rfl hw.1 dX2_areSquare_19 ?_
  have hw := hw.2
  refine kc_i (va_runV (As := [.int p0, .int (Po_xs p1.toNatClampNeg), .int (Po_ys p1.toNatClampNeg), .int (Po_zs p1.toNatClampNeg)]) (rest := []) ⟨hx, hb, hml, hown, hts⟩ (k_X2_dot l D cy hPo hPo_xs hPo_ys hPo_zs hPo_countUpTo Po_xs Po_ys Po_zs Po_countUpTo Po_count p0 (Po_xs p1.toNatClampNeg) (Po_ys p1.toNatClampNeg) (Po_zs p1.toNatClampNeg) _ _ hw) (cwV 4 hts (gV mw_4_23 mw_5_0 mw_5_1 mw_1_18 mw_5_2) rfl rfl rfl (by decide +kernel) ⟨Nat.le_of_ble_eq_true rfl, Nat.le_of_ble_eq_true rfl⟩) (fPreV hN hK hP hD [0] rfl rfl 0 (ci := 2) rfl rfl rfl _) rfl rfl hl.1 rfl (lv_room (Nat.le_of_ble_eq_true rfl)) dX2_areSquare_20 ⟨Nat.zero_le _, Nat.zero_le _⟩) (fun r1 hw => ?_)
  refine lv_if_ne (tgt := 30) hx hb dX2_areSquare_23 (by decide) (fun c2 => ?_) (fun c2 => ?_)
  · have hw := hw.2 c2
    refine lv_iconst (v := 0) hx hb dX2_areSquare_30 (by decide) ?_
    exact W.zret (v := 0) hx hb hr rfl (fun t ht hW => ⟨0, rfl, hw, ht⟩) (fun q h => by cases h) dX2_areSquare_31
  · have hw := hw.1 c2
    refine lv_iconst (v := 1) hx hb dX2_areSquare_26 (by decide) ?_
    refine lv_goto (tgt := 31) hx hb dX2_areSquare_27 (by decide) ?_
    exact W.zret (v := 1) hx hb hr rfl (fun t ht hW => ⟨1, rfl, hw, ht⟩) (fun q h => by cases h) dX2_areSquare_31
set_option maxHeartbeats 4000000 in
set_option maxRecDepth 100000 in
theorem k_X3_findBegins (l : Launch) (D : va_G) (cy : Nat → ClassId) (hRa hRa_misfits hRa_nodals hRa_order hRa_places hRa_counted hRa_begins hPl hBu ns nn : Nat) (Ra_misfits : Nat → Int32) (Ra_nodals : Nat → Int32) (Ra_order : Nat → Int32) (Ra_places : Nat → Int32) (Ra_keptCount : Int32) (Ra_least : Int32) (Ra_version : Int32) (Ra_counted : Nat → Int32) (Ra_begins : Nat → Int32) (p0 : Int32) (sz : Nat) (Q : Int32 → (Nat → Int32) → Prop) (hw : wp_X3_findBegins p0 ns nn Ra_misfits Ra_nodals Ra_keptCount Ra_least Ra_begins Q) : Met l yX3_findBegins (wA yX3_findBegins cX3_findBegins 3 none) { frames := 1, cells := 0, slots := 0, locals := 23 } (kPc [.ref hRa, .int p0] D cy (List.flatten [wRa cy hRa hRa_misfits hRa_nodals hRa_order hRa_places hRa_counted hRa_begins hPl hBu ns nn Ra_misfits Ra_nodals Ra_order Ra_places Ra_keptCount Ra_least Ra_version Ra_counted Ra_begins]) sz) (va_Qv (fun (u : Int32 × (Nat → Int32)) => Q u.1 u.2) (fun u t => kB D cy (va_A (List.flatten [wRa cy hRa hRa_misfits hRa_nodals hRa_order hRa_places hRa_counted hRa_begins hPl hBu ns nn Ra_misfits Ra_nodals Ra_order Ra_places Ra_keptCount Ra_least Ra_version Ra_counted Ra_begins]) sz) (List.flatten [wRa cy hRa hRa_misfits hRa_nodals hRa_order hRa_places hRa_counted hRa_begins hPl hBu ns nn Ra_misfits Ra_nodals Ra_order Ra_places u.1 Ra_least Ra_version Ra_counted u.2]) t) (va_A (List.flatten [wRa cy hRa hRa_misfits hRa_nodals hRa_order hRa_places hRa_counted hRa_begins hPl hBu ns nn Ra_misfits Ra_nodals Ra_order Ra_places Ra_keptCount Ra_least Ra_version Ra_counted Ra_begins]) sz)) 0 0 (va_A (List.flatten [wRa cy hRa hRa_misfits hRa_nodals hRa_order hRa_places hRa_counted hRa_begins hPl hBu ns nn Ra_misfits Ra_nodals Ra_order Ra_places Ra_keptCount Ra_least Ra_version Ra_counted Ra_begins]) sz) := by
  refine Met.ofW (cc := cX3_findBegins) (maxL := 3) (ret := none) (by decide) rfl ?_
  intro p e s m args below meth c s₁ B hml hv
  obtain ⟨rfl, hsz, hN, hP, hK, hD0⟩ := hv
  have hx := B.exec
  have hb := B.bytes
  have hr := B.returns
  have hts0 := atoms_spec (ws := wA yX3_findBegins cX3_findBegins 3 none) B.pre
  have hts := fun w (h : w ∈ wsL_law) => hts0 w (List.mem_cons_of_mem _ h)
  have hown : s.vm.findClass RX3 = some m.cls := findClass_of_methodNamed B.named
  have hlocks := B.notSynchronized
  subst hsz
  have hD := hD0.self (sz := s.heap.size)
  generalize hAe : va_A (List.flatten [wRa cy hRa hRa_misfits hRa_nodals hRa_order hRa_places hRa_counted hRa_begins hPl hBu ns nn Ra_misfits Ra_nodals Ra_order Ra_places Ra_keptCount Ra_least Ra_version Ra_counted Ra_begins]) s.heap.size = A at hD ⊢
  have hA : ∀ q : Nat, s.heap.size ≤ q → A q := fun q h => by rw [← hAe]; exact Or.inr h
  have hS : va_S A s.heap s.heap [] := va_S.rf
  have hP : va_P D vwCl (List.flatten [wRa cy hRa hRa_misfits hRa_nodals hRa_order hRa_places hRa_counted hRa_begins hPl hBu ns nn Ra_misfits Ra_nodals Ra_order Ra_places Ra_keptCount Ra_least Ra_version Ra_counted Ra_begins]) s.heap := hP
  have hl := lv_entry ([.ref hRa, .int p0]) (n := 3) (Nat.le_of_ble_eq_true rfl)
  rw [lg_entry_eq]
  generalize (lg_sl ([.ref hRa, .int p0]) ++ List.replicate (3 - (lg_sl ([.ref hRa, .int p0])).length) Slot.unset).toArray = ls at hl ⊢
  have hl : lv_has ls 3 [(0, .ref hRa), (1, .int p0)] := hl
  unfold wp_X3_findBegins at hw
  refine lv_aload_n hx hb dX3_findBegins_0 rfl (lv_at hl 0 rfl) ?_
  refine va_get (D := D) (ci := 3) (v := .ref hRa_begins) (C := RX3) (T := TX3) (N := 11) hx hb hts inlX3 hown hK hP 0 rfl rfl 10 (by decide) (hts (.fieldLink RX3 19 "SquarePlanes$Ranking" "begins" "[I") mw_6_1) (fun _ h9 => h9) rfl dX3_findBegins_1 ?_
  refine lv_iconst (v := 0) hx hb dX3_findBegins_4 (by decide) ?_
  refine kd_v [6] [0, 1, 2, 3, 4, 5] hP hD hS hA rfl rfl rfl (by decide) (va_runS (As := [.ref hRa_begins, .int (0)]) (rest := []) ⟨hx, hb, hml, hown, hts⟩ (k_J7_fill_53178 l D cy hRa_begins 971 Ra_begins (0 : Int32) _ _ hw) (va_cwS 2 hts (gS mw_14_1 mw_14_2 mw_14_3 mw_14_4) rfl rfl rfl (by decide +kernel) ⟨Nat.le_of_ble_eq_true rfl, Nat.le_of_ble_eq_true rfl⟩) (kPre hN hK hP hD [6] rfl rfl _) rfl rfl hl.1 rfl (lv_room (Nat.le_of_ble_eq_true rfl)) dX3_findBegins_5 ⟨Nat.zero_le _, Nat.zero_le _⟩) (fun u H locs hw hP hD hS => ?_)
  obtain ⟨w1, rfl⟩ : ∃ z, z = u := ⟨_, rfl⟩
  try dsimp only at hw
  have hP : va_P D vwCl (List.flatten [wRa cy hRa hRa_misfits hRa_nodals hRa_order hRa_places hRa_counted hRa_begins hPl hBu ns nn Ra_misfits Ra_nodals Ra_order Ra_places Ra_keptCount Ra_least Ra_version Ra_counted w1]) H := hP.sub [0, 1, 2, 3, 4, 5, 6] rfl
  have hD : va_D A (List.flatten [wRa cy hRa hRa_misfits hRa_nodals hRa_order hRa_places hRa_counted hRa_begins hPl hBu ns nn Ra_misfits Ra_nodals Ra_order Ra_places Ra_keptCount Ra_least Ra_version Ra_counted w1]) := hD.sub [0, 1, 2, 3, 4, 5, 6] rfl rfl
  refine lv_iconst (v := 0) hx hb dX3_findBegins_8 (by decide) ?_
  refine lv_istore_n (lv' := [(2, .int 0), (0, .ref hRa), (1, .int p0)]) hx hb dX3_findBegins_9 rfl hl (by decide) rfl (fun ls hl => ?_)
  obtain ⟨n10, hw⟩ := hw
  have kl10 : ∀ (K10_50 : Int32 → (Nat → Int32) → Prop) (hk10_50 : ∀ (y2_10 : Int32) (Ra_begins_v_10 : Nat → Int32) (H : Heap) (locs : List Loc) (ls : Array Slot), K10_50 y2_10 Ra_begins_v_10 → va_P D vwCl (List.flatten [wRa cy hRa hRa_misfits hRa_nodals hRa_order hRa_places hRa_counted hRa_begins hPl hBu ns nn Ra_misfits Ra_nodals Ra_order Ra_places Ra_keptCount Ra_least Ra_version Ra_counted Ra_begins_v_10]) H → va_D A (List.flatten [wRa cy hRa hRa_misfits hRa_nodals hRa_order hRa_places hRa_counted hRa_begins hPl hBu ns nn Ra_misfits Ra_nodals Ra_order Ra_places Ra_keptCount Ra_least Ra_version Ra_counted Ra_begins_v_10]) → va_S A s.heap H locs → lv_has ls 3 [(0, .ref hRa), (1, .int p0), (2, .int y2_10)] → W p l e (headSpec (wA yX3_findBegins cX3_findBegins 3 none) { frames := 1, cells := 0, slots := 0, locals := 23 }).room s m #[.ref hRa, .int p0] below meth c H locs 0 0 (MQ below (va_Qv (fun (u : Int32 × (Nat → Int32)) => Q u.1 u.2) (fun u t => kB D cy A (List.flatten [wRa cy hRa hRa_misfits hRa_nodals hRa_order hRa_places hRa_counted hRa_begins hPl hBu ns nn Ra_misfits Ra_nodals Ra_order Ra_places u.1 Ra_least Ra_version Ra_counted u.2]) t) A) #[.ref hRa, .int p0] s 0 0 A) (F0 m 50 ls [])) (n : Nat) (y2_10 : Int32) (Ra_begins_v_10 : Nat → Int32) (H : Heap) (locs : List Loc) (ls : Array Slot), wp_X3_findBegins_L10 p0 ns nn Ra_misfits Ra_nodals Ra_least K10_50 n y2_10 Ra_begins_v_10 → va_P D vwCl (List.flatten [wRa cy hRa hRa_misfits hRa_nodals hRa_order hRa_places hRa_counted hRa_begins hPl hBu ns nn Ra_misfits Ra_nodals Ra_order Ra_places Ra_keptCount Ra_least Ra_version Ra_counted Ra_begins_v_10]) H → va_D A (List.flatten [wRa cy hRa hRa_misfits hRa_nodals hRa_order hRa_places hRa_counted hRa_begins hPl hBu ns nn Ra_misfits Ra_nodals Ra_order Ra_places Ra_keptCount Ra_least Ra_version Ra_counted Ra_begins_v_10]) → va_S A s.heap H locs → lv_has ls 3 [(0, .ref hRa), (1, .int p0), (2, .int y2_10)] → W p l e (headSpec (wA yX3_findBegins cX3_findBegins 3 none) { frames := 1, cells := 0, slots := 0, locals := 23 }).room s m #[.ref hRa, .int p0] below meth c H locs 0 0 (MQ below (va_Qv (fun (u : Int32 × (Nat → Int32)) => Q u.1 u.2) (fun u t => kB D cy A (List.flatten [wRa cy hRa hRa_misfits hRa_nodals hRa_order hRa_places hRa_counted hRa_begins hPl hBu ns nn Ra_misfits Ra_nodals Ra_order Ra_places u.1 Ra_least Ra_version Ra_counted u.2]) t) A) #[.ref hRa, .int p0] s 0 0 A) (F0 m 10 ls []) := by
    intro K10_50 hk10_50 n
    induction n with
    | zero =>
      intro y2_10 Ra_begins_v_10 H locs ls hw
      exact hw.elim
    | succ n ih10 =>
      intro y2_10 Ra_begins_v_10 H locs ls hw hP hD hS hl
      unfold wp_X3_findBegins_L10 at hw
      refine lv_iload_n hx hb dX3_findBegins_10 rfl (lv_at hl 2 rfl) ?_
      refine lv_aload_n hx hb dX3_findBegins_11 rfl (lv_at hl 0 rfl) ?_
      refine va_get (D := D) (ci := 3) (v := .ref hRa_misfits) (C := RX3) (T := TX3) (N := 11) hx hb hts inlX3 hown hK hP 0 rfl rfl 2 (by decide) (hts (.fieldLink RX3 41 "SquarePlanes$Ranking" "misfits" "[I") mw_6_7) (fun _ h9 => h9) rfl dX3_findBegins_12 ?_
      refine va_alen hx hb hK hP 1 0 rfl rfl rfl dX3_findBegins_15 ?_
      refine lv_icmp_ge (tgt := 50) hx hb dX3_findBegins_16 (by decide) (fun c5_10 => ?_) (fun c5_10 => ?_)
      · have hw := hw.1 c5_10
        exact hk10_50 y2_10 Ra_begins_v_10 _ _ ls hw hP hD hS (lv_sub hl [0, 1, 2] rfl)
      · have hw := hw.2 c5_10
        refine lv_aload_n hx hb dX3_findBegins_19 rfl (lv_at hl 0 rfl) ?_
        refine lv_iload_n hx hb dX3_findBegins_20 rfl (lv_at hl 2 rfl) ?_
        refine lv_iload_n hx hb dX3_findBegins_21 rfl (lv_at hl 1 rfl) ?_
        refine kc_i (va_runV (As := [.int y2_10, .int p0]) (rest := []) ⟨hx, hb, hml, hown, hts⟩ (k_X3_isKept l D cy hRa hRa_misfits hRa_nodals hRa_order hRa_places hRa_counted hRa_begins hPl hBu ns nn Ra_misfits Ra_nodals Ra_order Ra_places Ra_keptCount Ra_least Ra_version Ra_counted Ra_begins_v_10 y2_10 p0 _ _ hw) (cwV 2 hts (gV mw_15_10 mw_15_11 mw_15_12 mw_2_0 mw_15_13) rfl rfl rfl (by decide +kernel) ⟨Nat.le_of_ble_eq_true rfl, Nat.le_of_ble_eq_true rfl⟩) (fPreV hN hK hP hD [0] rfl rfl 0 (ci := 3) rfl rfl rfl _) rfl rfl hl.1 rfl (lv_room (Nat.le_of_ble_eq_true rfl)) dX3_findBegins_22 ⟨Nat.zero_le _, Nat.zero_le _⟩) (fun r1_10 hw => ?_)
        refine lv_if_eq (tgt := 44) hx hb dX3_findBegins_25 (by decide) (fun c4_10 => ?_) (fun c4_10 => ?_)
        · have hw := hw.1 c4_10
          refine lv_iinc (v := y2_10 + 1) (lv' := [(2, .int (y2_10 + 1)), (0, .ref hRa), (1, .int p0)]) hx hb dX3_findBegins_44 hl (k := 2) rfl rfl (by decide) rfl (fun ls hl => ?_)
          refine lv_goto (tgt := 10) hx hb dX3_findBegins_47 (by decide) ?_
          exact ih10 (y2_10 + 1) Ra_begins_v_10 _ _ ls hw hP hD hS (lv_sub hl [1, 2, 0] rfl)
        · have hw := hw.2 c4_10
          refine lv_aload_n hx hb dX3_findBegins_28 rfl (lv_at hl 0 rfl) ?_
          refine va_get (D := D) (ci := 3) (v := .ref hRa_begins) (C := RX3) (T := TX3) (N := 11) hx hb hts inlX3 hown hK hP 0 rfl rfl 10 (by decide) (hts (.fieldLink RX3 19 "SquarePlanes$Ranking" "begins" "[I") mw_6_1) (fun _ h9 => h9) rfl dX3_findBegins_29 ?_
          refine lv_aload_n hx hb dX3_findBegins_32 rfl (lv_at hl 0 rfl) ?_
          refine lv_iload_n hx hb dX3_findBegins_33 rfl (lv_at hl 2 rfl) ?_
          refine kc_i (va_runV (As := [.int y2_10]) (rest := [.ref hRa_begins]) ⟨hx, hb, hml, hown, hts⟩ (k_X3_rank l D cy hRa hRa_misfits hRa_nodals hRa_order hRa_places hRa_counted hRa_begins hPl hBu ns nn Ra_misfits Ra_nodals Ra_order Ra_places Ra_keptCount Ra_least Ra_version Ra_counted Ra_begins_v_10 y2_10 _ _ hw) (cwV 1 hts (gV mw_15_14 mw_15_15 mw_15_16 mw_2_0 mw_15_17) rfl rfl rfl (by decide +kernel) ⟨Nat.le_of_ble_eq_true rfl, Nat.le_of_ble_eq_true rfl⟩) (fPreV hN hK hP hD [0] rfl rfl 0 (ci := 3) rfl rfl rfl _) rfl rfl hl.1 rfl (lv_room (Nat.le_of_ble_eq_true rfl)) dX3_findBegins_34 ⟨Nat.zero_le _, Nat.zero_le _⟩) (fun r2_10 hw => ?_)
          refine lv_iconst (v := 1) hx hb dX3_findBegins_37 (by decide) ?_
          refine lv_iadd hx hb dX3_findBegins_38 ?_
          refine lv_dup2_11 hx hb dX3_findBegins_39 rfl rfl ?_
          refine va_iald hx hb hK hP 6 0 rfl rfl hw.1 dX3_findBegins_40 ?_
          have hw := hw.2
          refine lv_iconst (v := 1) hx hb dX3_findBegins_41 (by decide) ?_
          refine lv_iadd hx hb dX3_findBegins_42 ?_
          refine lv_topi (fun x3_10 ex3_10 => ?_)
          have hw := hw x3_10 ex3_10
          refine va_iast hx hb hK hP hD hS 6 0 rfl rfl hw.1 dX3_findBegins_43 (fun H locs hP hD hS => ?_)
          have hw := hw.2
          have hP : va_P D vwCl (List.flatten [wRa cy hRa hRa_misfits hRa_nodals hRa_order hRa_places hRa_counted hRa_begins hPl hBu ns nn Ra_misfits Ra_nodals Ra_order Ra_places Ra_keptCount Ra_least Ra_version Ra_counted (upd Ra_begins_v_10 (r2_10 + 1).toNatClampNeg x3_10)]) H := hP
          have hD : va_D A (List.flatten [wRa cy hRa hRa_misfits hRa_nodals hRa_order hRa_places hRa_counted hRa_begins hPl hBu ns nn Ra_misfits Ra_nodals Ra_order Ra_places Ra_keptCount Ra_least Ra_version Ra_counted (upd Ra_begins_v_10 (r2_10 + 1).toNatClampNeg x3_10)]) := hD
          refine lv_iinc (v := y2_10 + 1) (lv' := [(2, .int (y2_10 + 1)), (0, .ref hRa), (1, .int p0)]) hx hb dX3_findBegins_44 hl (k := 2) rfl rfl (by decide) rfl (fun ls hl => ?_)
          refine lv_goto (tgt := 10) hx hb dX3_findBegins_47 (by decide) ?_
          exact ih10 (y2_10 + 1) (upd Ra_begins_v_10 (r2_10 + 1).toNatClampNeg x3_10) _ _ ls hw hP hD hS (lv_sub hl [1, 2, 0] rfl)
  refine kl10 _ ?_ n10 0 w1 _ _ ls hw hP hD hS (lv_sub hl [1, 2, 0] rfl)
  · intro y2_10 Ra_begins_v_10 H locs ls hw hP hD hS hl
    refine lv_iconst (v := 1) hx hb dX3_findBegins_50 (by decide) ?_
    refine lv_istore_n (lv' := [(2, .int 1), (0, .ref hRa), (1, .int p0)]) hx hb dX3_findBegins_51 rfl hl (by decide) rfl (fun ls hl => ?_)
    obtain ⟨n52, hw⟩ := hw
    have kl52 : ∀ (K52_84 : Int32 → (Nat → Int32) → Prop) (hk52_84 : ∀ (y2_52 : Int32) (Ra_begins_v_52 : Nat → Int32) (H : Heap) (locs : List Loc) (ls : Array Slot), K52_84 y2_52 Ra_begins_v_52 → va_P D vwCl (List.flatten [wRa cy hRa hRa_misfits hRa_nodals hRa_order hRa_places hRa_counted hRa_begins hPl hBu ns nn Ra_misfits Ra_nodals Ra_order Ra_places Ra_keptCount Ra_least Ra_version Ra_counted Ra_begins_v_52]) H → va_D A (List.flatten [wRa cy hRa hRa_misfits hRa_nodals hRa_order hRa_places hRa_counted hRa_begins hPl hBu ns nn Ra_misfits Ra_nodals Ra_order Ra_places Ra_keptCount Ra_least Ra_version Ra_counted Ra_begins_v_52]) → va_S A s.heap H locs → lv_has ls 3 [(0, .ref hRa), (1, .int p0), (2, .int y2_52)] → W p l e (headSpec (wA yX3_findBegins cX3_findBegins 3 none) { frames := 1, cells := 0, slots := 0, locals := 23 }).room s m #[.ref hRa, .int p0] below meth c H locs 0 0 (MQ below (va_Qv (fun (u : Int32 × (Nat → Int32)) => Q u.1 u.2) (fun u t => kB D cy A (List.flatten [wRa cy hRa hRa_misfits hRa_nodals hRa_order hRa_places hRa_counted hRa_begins hPl hBu ns nn Ra_misfits Ra_nodals Ra_order Ra_places u.1 Ra_least Ra_version Ra_counted u.2]) t) A) #[.ref hRa, .int p0] s 0 0 A) (F0 m 84 ls [])) (n : Nat) (y2_52 : Int32) (Ra_begins_v_52 : Nat → Int32) (H : Heap) (locs : List Loc) (ls : Array Slot), wp_X3_findBegins_L52  K52_84 n y2_52 Ra_begins_v_52 → va_P D vwCl (List.flatten [wRa cy hRa hRa_misfits hRa_nodals hRa_order hRa_places hRa_counted hRa_begins hPl hBu ns nn Ra_misfits Ra_nodals Ra_order Ra_places Ra_keptCount Ra_least Ra_version Ra_counted Ra_begins_v_52]) H → va_D A (List.flatten [wRa cy hRa hRa_misfits hRa_nodals hRa_order hRa_places hRa_counted hRa_begins hPl hBu ns nn Ra_misfits Ra_nodals Ra_order Ra_places Ra_keptCount Ra_least Ra_version Ra_counted Ra_begins_v_52]) → va_S A s.heap H locs → lv_has ls 3 [(0, .ref hRa), (1, .int p0), (2, .int y2_52)] → W p l e (headSpec (wA yX3_findBegins cX3_findBegins 3 none) { frames := 1, cells := 0, slots := 0, locals := 23 }).room s m #[.ref hRa, .int p0] below meth c H locs 0 0 (MQ below (va_Qv (fun (u : Int32 × (Nat → Int32)) => Q u.1 u.2) (fun u t => kB D cy A (List.flatten [wRa cy hRa hRa_misfits hRa_nodals hRa_order hRa_places hRa_counted hRa_begins hPl hBu ns nn Ra_misfits Ra_nodals Ra_order Ra_places u.1 Ra_least Ra_version Ra_counted u.2]) t) A) #[.ref hRa, .int p0] s 0 0 A) (F0 m 52 ls []) := by
      intro K52_84 hk52_84 n
      induction n with
      | zero =>
        intro y2_52 Ra_begins_v_52 H locs ls hw
        exact hw.elim
      | succ n ih52 =>
        intro y2_52 Ra_begins_v_52 H locs ls hw hP hD hS hl
        unfold wp_X3_findBegins_L52 at hw
        refine lv_iload_n hx hb dX3_findBegins_52 rfl (lv_at hl 2 rfl) ?_
        refine lv_aload_n hx hb dX3_findBegins_53 rfl (lv_at hl 0 rfl) ?_
        refine va_get (D := D) (ci := 3) (v := .ref hRa_begins) (C := RX3) (T := TX3) (N := 11) hx hb hts inlX3 hown hK hP 0 rfl rfl 10 (by decide) (hts (.fieldLink RX3 19 "SquarePlanes$Ranking" "begins" "[I") mw_6_1) (fun _ h9 => h9) rfl dX3_findBegins_54 ?_
        refine va_alen hx hb hK hP 6 0 rfl rfl rfl dX3_findBegins_57 ?_
        refine lv_icmp_ge (tgt := 84) hx hb dX3_findBegins_58 (by decide) (fun c2_52 => ?_) (fun c2_52 => ?_)
        · have hw := hw.1 c2_52
          exact hk52_84 y2_52 Ra_begins_v_52 _ _ ls hw hP hD hS (lv_sub hl [0, 1, 2] rfl)
        · have hw := hw.2 c2_52
          refine lv_aload_n hx hb dX3_findBegins_61 rfl (lv_at hl 0 rfl) ?_
          refine va_get (D := D) (ci := 3) (v := .ref hRa_begins) (C := RX3) (T := TX3) (N := 11) hx hb hts inlX3 hown hK hP 0 rfl rfl 10 (by decide) (hts (.fieldLink RX3 19 "SquarePlanes$Ranking" "begins" "[I") mw_6_1) (fun _ h9 => h9) rfl dX3_findBegins_62 ?_
          refine lv_iload_n hx hb dX3_findBegins_65 rfl (lv_at hl 2 rfl) ?_
          refine lv_dup2_11 hx hb dX3_findBegins_66 rfl rfl ?_
          refine va_iald hx hb hK hP 6 0 rfl rfl hw.1 dX3_findBegins_67 ?_
          have hw := hw.2
          refine lv_aload_n hx hb dX3_findBegins_68 rfl (lv_at hl 0 rfl) ?_
          refine va_get (D := D) (ci := 3) (v := .ref hRa_begins) (C := RX3) (T := TX3) (N := 11) hx hb hts inlX3 hown hK hP 0 rfl rfl 10 (by decide) (hts (.fieldLink RX3 19 "SquarePlanes$Ranking" "begins" "[I") mw_6_1) (fun _ h9 => h9) rfl dX3_findBegins_69 ?_
          refine lv_iload_n hx hb dX3_findBegins_72 rfl (lv_at hl 2 rfl) ?_
          refine lv_iconst (v := 1) hx hb dX3_findBegins_73 (by decide) ?_
          refine lv_isub hx hb dX3_findBegins_74 ?_
          refine va_iald hx hb hK hP 6 0 rfl rfl hw.1 dX3_findBegins_75 ?_
          have hw := hw.2
          refine lv_iadd hx hb dX3_findBegins_76 ?_
          refine lv_topi (fun x1_52 ex1_52 => ?_)
          have hw := hw x1_52 ex1_52
          refine va_iast hx hb hK hP hD hS 6 0 rfl rfl hw.1 dX3_findBegins_77 (fun H locs hP hD hS => ?_)
          have hw := hw.2
          have hP : va_P D vwCl (List.flatten [wRa cy hRa hRa_misfits hRa_nodals hRa_order hRa_places hRa_counted hRa_begins hPl hBu ns nn Ra_misfits Ra_nodals Ra_order Ra_places Ra_keptCount Ra_least Ra_version Ra_counted (upd Ra_begins_v_52 y2_52.toNatClampNeg x1_52)]) H := hP
          have hD : va_D A (List.flatten [wRa cy hRa hRa_misfits hRa_nodals hRa_order hRa_places hRa_counted hRa_begins hPl hBu ns nn Ra_misfits Ra_nodals Ra_order Ra_places Ra_keptCount Ra_least Ra_version Ra_counted (upd Ra_begins_v_52 y2_52.toNatClampNeg x1_52)]) := hD
          refine lv_iinc (v := y2_52 + 1) (lv' := [(2, .int (y2_52 + 1)), (0, .ref hRa), (1, .int p0)]) hx hb dX3_findBegins_78 hl (k := 2) rfl rfl (by decide) rfl (fun ls hl => ?_)
          refine lv_goto (tgt := 52) hx hb dX3_findBegins_81 (by decide) ?_
          exact ih52 (y2_52 + 1) (upd Ra_begins_v_52 y2_52.toNatClampNeg x1_52) _ _ ls hw hP hD hS (lv_sub hl [1, 2, 0] rfl)
    refine kl52 _ ?_ n52 1 Ra_begins_v_10 _ _ ls hw hP hD hS (lv_sub hl [1, 2, 0] rfl)
    · intro y2_52 Ra_begins_v_52 H locs ls hw hP hD hS hl
      refine lv_aload_n hx hb dX3_findBegins_84 rfl (lv_at hl 0 rfl) ?_
      refine lv_aload_n hx hb dX3_findBegins_85 rfl (lv_at hl 0 rfl) ?_
      refine va_get (D := D) (ci := 3) (v := .ref hRa_begins) (C := RX3) (T := TX3) (N := 11) hx hb hts inlX3 hown hK hP 0 rfl rfl 10 (by decide) (hts (.fieldLink RX3 19 "SquarePlanes$Ranking" "begins" "[I") mw_6_1) (fun _ h9 => h9) rfl dX3_findBegins_86 ?_
      refine lv_aload_n hx hb dX3_findBegins_89 rfl (lv_at hl 0 rfl) ?_
      refine va_get (D := D) (ci := 3) (v := .ref hRa_begins) (C := RX3) (T := TX3) (N := 11) hx hb hts inlX3 hown hK hP 0 rfl rfl 10 (by decide) (hts (.fieldLink RX3 19 "SquarePlanes$Ranking" "begins" "[I") mw_6_1) (fun _ h9 => h9) rfl dX3_findBegins_90 ?_
      refine va_alen hx hb hK hP 6 0 rfl rfl rfl dX3_findBegins_93 ?_
      refine lv_iconst (v := 1) hx hb dX3_findBegins_94 (by decide) ?_
      refine lv_isub hx hb dX3_findBegins_95 ?_
      refine va_iald hx hb hK hP 6 0 rfl rfl hw.1 dX3_findBegins_96 ?_
      have hw := hw.2
      refine lv_topi (fun x2 ex2 => ?_)
      have hw := hw x2 ex2
      refine va_put (D := D) (ci := 3) (v := .int x2) (ty := tyX3 6) (C := RX3) (T := TX3) (N := 11) hx hb hts inlX3 tyX3 tyX3_ok nmX3 hown hK hP hD hS 0 rfl rfl 6 (by decide) (hts (.fieldLink RX3 118 "SquarePlanes$Ranking" "keptCount" "I") mw_15_9) (fun _ h9 => h9) rfl (tyX3_ok 6 (by decide)) rfl rfl (Nat.le_of_ble_eq_true rfl) dX3_findBegins_97 (fun H locs hP hD hS => ?_)
      have hP : va_P D vwCl (List.flatten [wRa cy hRa hRa_misfits hRa_nodals hRa_order hRa_places hRa_counted hRa_begins hPl hBu ns nn Ra_misfits Ra_nodals Ra_order Ra_places x2 Ra_least Ra_version Ra_counted Ra_begins_v_52]) H := hP
      have hD : va_D A (List.flatten [wRa cy hRa hRa_misfits hRa_nodals hRa_order hRa_places hRa_counted hRa_begins hPl hBu ns nn Ra_misfits Ra_nodals Ra_order Ra_places x2 Ra_least Ra_version Ra_counted Ra_begins_v_52]) := hD
      exact W.vret hx hb hr (fun t ht hW => ⟨⟨(x2, Ra_begins_v_52), rfl, hw, ⟨by rw [ht]; exact hP, va_K.moved hW.alike hK, hD⟩⟩, hS.F ht⟩) hS.2.2 dX3_findBegins_100
set_option maxHeartbeats 4000000 in
set_option maxRecDepth 100000 in
theorem k_X3_placeKept (l : Launch) (D : va_G) (cy : Nat → ClassId) (hRa hRa_misfits hRa_nodals hRa_order hRa_places hRa_counted hRa_begins hPl hBu ns nn : Nat) (Ra_misfits : Nat → Int32) (Ra_nodals : Nat → Int32) (Ra_order : Nat → Int32) (Ra_places : Nat → Int32) (Ra_keptCount : Int32) (Ra_least : Int32) (Ra_version : Int32) (Ra_counted : Nat → Int32) (Ra_begins : Nat → Int32) (p0 : Int32) (sz : Nat) (Q : (Nat → Int32) → (Nat → Int32) → (Nat → Int32) → Prop) (hw : wp_X3_placeKept p0 ns nn Ra_misfits Ra_nodals Ra_order Ra_places Ra_least Ra_begins Q) : Met l yX3_placeKept (wA yX3_placeKept cX3_placeKept 4 none) { frames := 1, cells := 0, slots := 0, locals := 22 } (kPc [.ref hRa, .int p0] D cy (List.flatten [wRa cy hRa hRa_misfits hRa_nodals hRa_order hRa_places hRa_counted hRa_begins hPl hBu ns nn Ra_misfits Ra_nodals Ra_order Ra_places Ra_keptCount Ra_least Ra_version Ra_counted Ra_begins]) sz) (va_Qv (fun (u : (Nat → Int32) × (Nat → Int32) × (Nat → Int32)) => Q u.1 u.2.1 u.2.2) (fun u t => kB D cy (va_A (List.flatten [wRa cy hRa hRa_misfits hRa_nodals hRa_order hRa_places hRa_counted hRa_begins hPl hBu ns nn Ra_misfits Ra_nodals Ra_order Ra_places Ra_keptCount Ra_least Ra_version Ra_counted Ra_begins]) sz) (List.flatten [wRa cy hRa hRa_misfits hRa_nodals hRa_order hRa_places hRa_counted hRa_begins hPl hBu ns nn Ra_misfits Ra_nodals u.1 u.2.1 Ra_keptCount Ra_least Ra_version Ra_counted u.2.2]) t) (va_A (List.flatten [wRa cy hRa hRa_misfits hRa_nodals hRa_order hRa_places hRa_counted hRa_begins hPl hBu ns nn Ra_misfits Ra_nodals Ra_order Ra_places Ra_keptCount Ra_least Ra_version Ra_counted Ra_begins]) sz)) 0 0 (va_A (List.flatten [wRa cy hRa hRa_misfits hRa_nodals hRa_order hRa_places hRa_counted hRa_begins hPl hBu ns nn Ra_misfits Ra_nodals Ra_order Ra_places Ra_keptCount Ra_least Ra_version Ra_counted Ra_begins]) sz) := by
  refine Met.ofW (cc := cX3_placeKept) (maxL := 4) (ret := none) (by decide) rfl ?_
  intro p e s m args below meth c s₁ B hml hv
  obtain ⟨rfl, hsz, hN, hP, hK, hD0⟩ := hv
  have hx := B.exec
  have hb := B.bytes
  have hr := B.returns
  have hts0 := atoms_spec (ws := wA yX3_placeKept cX3_placeKept 4 none) B.pre
  have hts := fun w (h : w ∈ wsL_law) => hts0 w (List.mem_cons_of_mem _ h)
  have hown : s.vm.findClass RX3 = some m.cls := findClass_of_methodNamed B.named
  have hlocks := B.notSynchronized
  subst hsz
  have hD := hD0.self (sz := s.heap.size)
  generalize hAe : va_A (List.flatten [wRa cy hRa hRa_misfits hRa_nodals hRa_order hRa_places hRa_counted hRa_begins hPl hBu ns nn Ra_misfits Ra_nodals Ra_order Ra_places Ra_keptCount Ra_least Ra_version Ra_counted Ra_begins]) s.heap.size = A at hD ⊢
  have hA : ∀ q : Nat, s.heap.size ≤ q → A q := fun q h => by rw [← hAe]; exact Or.inr h
  have hS : va_S A s.heap s.heap [] := va_S.rf
  have hP : va_P D vwCl (List.flatten [wRa cy hRa hRa_misfits hRa_nodals hRa_order hRa_places hRa_counted hRa_begins hPl hBu ns nn Ra_misfits Ra_nodals Ra_order Ra_places Ra_keptCount Ra_least Ra_version Ra_counted Ra_begins]) s.heap := hP
  have hl := lv_entry ([.ref hRa, .int p0]) (n := 4) (Nat.le_of_ble_eq_true rfl)
  rw [lg_entry_eq]
  generalize (lg_sl ([.ref hRa, .int p0]) ++ List.replicate (4 - (lg_sl ([.ref hRa, .int p0])).length) Slot.unset).toArray = ls at hl ⊢
  have hl : lv_has ls 4 [(0, .ref hRa), (1, .int p0)] := hl
  unfold wp_X3_placeKept at hw
  refine lv_iconst (v := 0) hx hb dX3_placeKept_0 (by decide) ?_
  refine lv_istore_n (lv' := [(2, .int 0), (0, .ref hRa), (1, .int p0)]) hx hb dX3_placeKept_1 rfl hl (by decide) rfl (fun ls hl => ?_)
  obtain ⟨n2, hw⟩ := hw
  have kl2 : ∀ (K2_67 : Int32 → (Nat → Int32) → (Nat → Int32) → (Nat → Int32) → Prop) (hk2_67 : ∀ (y2_2 : Int32) (Ra_order_v_2 : Nat → Int32) (Ra_places_v_2 : Nat → Int32) (Ra_begins_v_2 : Nat → Int32) (H : Heap) (locs : List Loc) (ls : Array Slot), K2_67 y2_2 Ra_order_v_2 Ra_places_v_2 Ra_begins_v_2 → va_P D vwCl (List.flatten [wRa cy hRa hRa_misfits hRa_nodals hRa_order hRa_places hRa_counted hRa_begins hPl hBu ns nn Ra_misfits Ra_nodals Ra_order_v_2 Ra_places_v_2 Ra_keptCount Ra_least Ra_version Ra_counted Ra_begins_v_2]) H → va_D A (List.flatten [wRa cy hRa hRa_misfits hRa_nodals hRa_order hRa_places hRa_counted hRa_begins hPl hBu ns nn Ra_misfits Ra_nodals Ra_order_v_2 Ra_places_v_2 Ra_keptCount Ra_least Ra_version Ra_counted Ra_begins_v_2]) → va_S A s.heap H locs → lv_has ls 4 [(0, .ref hRa), (1, .int p0), (2, .int y2_2)] → W p l e (headSpec (wA yX3_placeKept cX3_placeKept 4 none) { frames := 1, cells := 0, slots := 0, locals := 22 }).room s m #[.ref hRa, .int p0] below meth c H locs 0 0 (MQ below (va_Qv (fun (u : (Nat → Int32) × (Nat → Int32) × (Nat → Int32)) => Q u.1 u.2.1 u.2.2) (fun u t => kB D cy A (List.flatten [wRa cy hRa hRa_misfits hRa_nodals hRa_order hRa_places hRa_counted hRa_begins hPl hBu ns nn Ra_misfits Ra_nodals u.1 u.2.1 Ra_keptCount Ra_least Ra_version Ra_counted u.2.2]) t) A) #[.ref hRa, .int p0] s 0 0 A) (F0 m 67 ls [])) (n : Nat) (y2_2 : Int32) (Ra_order_v_2 : Nat → Int32) (Ra_places_v_2 : Nat → Int32) (Ra_begins_v_2 : Nat → Int32) (H : Heap) (locs : List Loc) (ls : Array Slot), wp_X3_placeKept_L2 p0 ns nn Ra_misfits Ra_nodals Ra_least K2_67 n y2_2 Ra_order_v_2 Ra_places_v_2 Ra_begins_v_2 → va_P D vwCl (List.flatten [wRa cy hRa hRa_misfits hRa_nodals hRa_order hRa_places hRa_counted hRa_begins hPl hBu ns nn Ra_misfits Ra_nodals Ra_order_v_2 Ra_places_v_2 Ra_keptCount Ra_least Ra_version Ra_counted Ra_begins_v_2]) H → va_D A (List.flatten [wRa cy hRa hRa_misfits hRa_nodals hRa_order hRa_places hRa_counted hRa_begins hPl hBu ns nn Ra_misfits Ra_nodals Ra_order_v_2 Ra_places_v_2 Ra_keptCount Ra_least Ra_version Ra_counted Ra_begins_v_2]) → va_S A s.heap H locs → lv_has ls 4 [(0, .ref hRa), (1, .int p0), (2, .int y2_2)] → W p l e (headSpec (wA yX3_placeKept cX3_placeKept 4 none) { frames := 1, cells := 0, slots := 0, locals := 22 }).room s m #[.ref hRa, .int p0] below meth c H locs 0 0 (MQ below (va_Qv (fun (u : (Nat → Int32) × (Nat → Int32) × (Nat → Int32)) => Q u.1 u.2.1 u.2.2) (fun u t => kB D cy A (List.flatten [wRa cy hRa hRa_misfits hRa_nodals hRa_order hRa_places hRa_counted hRa_begins hPl hBu ns nn Ra_misfits Ra_nodals u.1 u.2.1 Ra_keptCount Ra_least Ra_version Ra_counted u.2.2]) t) A) #[.ref hRa, .int p0] s 0 0 A) (F0 m 2 ls []) := by
    intro K2_67 hk2_67 n
    induction n with
    | zero =>
      intro y2_2 Ra_order_v_2 Ra_places_v_2 Ra_begins_v_2 H locs ls hw
      exact hw.elim
    | succ n ih2 =>
      intro y2_2 Ra_order_v_2 Ra_places_v_2 Ra_begins_v_2 H locs ls hw hP hD hS hl
      unfold wp_X3_placeKept_L2 at hw
      refine lv_iload_n hx hb dX3_placeKept_2 rfl (lv_at hl 2 rfl) ?_
      refine lv_aload_n hx hb dX3_placeKept_3 rfl (lv_at hl 0 rfl) ?_
      refine va_get (D := D) (ci := 3) (v := .ref hRa_misfits) (C := RX3) (T := TX3) (N := 11) hx hb hts inlX3 hown hK hP 0 rfl rfl 2 (by decide) (hts (.fieldLink RX3 41 "SquarePlanes$Ranking" "misfits" "[I") mw_6_7) (fun _ h9 => h9) rfl dX3_placeKept_4 ?_
      refine va_alen hx hb hK hP 1 0 rfl rfl rfl dX3_placeKept_7 ?_
      refine lv_icmp_ge (tgt := 67) hx hb dX3_placeKept_8 (by decide) (fun c6_2 => ?_) (fun c6_2 => ?_)
      · have hw := hw.1 c6_2
        exact hk2_67 y2_2 Ra_order_v_2 Ra_places_v_2 Ra_begins_v_2 _ _ ls hw hP hD hS (lv_sub hl [0, 1, 2] rfl)
      · have hw := hw.2 c6_2
        refine lv_aload_n hx hb dX3_placeKept_11 rfl (lv_at hl 0 rfl) ?_
        refine lv_iload_n hx hb dX3_placeKept_12 rfl (lv_at hl 2 rfl) ?_
        refine lv_iload_n hx hb dX3_placeKept_13 rfl (lv_at hl 1 rfl) ?_
        refine kc_i (va_runV (As := [.int y2_2, .int p0]) (rest := []) ⟨hx, hb, hml, hown, hts⟩ (k_X3_isKept l D cy hRa hRa_misfits hRa_nodals hRa_order hRa_places hRa_counted hRa_begins hPl hBu ns nn Ra_misfits Ra_nodals Ra_order_v_2 Ra_places_v_2 Ra_keptCount Ra_least Ra_version Ra_counted Ra_begins_v_2 y2_2 p0 _ _ hw) (cwV 2 hts (gV mw_15_10 mw_15_11 mw_15_12 mw_2_0 mw_15_13) rfl rfl rfl (by decide +kernel) ⟨Nat.le_of_ble_eq_true rfl, Nat.le_of_ble_eq_true rfl⟩) (fPreV hN hK hP hD [0] rfl rfl 0 (ci := 3) rfl rfl rfl _) rfl rfl hl.1 rfl (lv_room (Nat.le_of_ble_eq_true rfl)) dX3_placeKept_14 ⟨Nat.zero_le _, Nat.zero_le _⟩) (fun r1_2 hw => ?_)
        refine lv_if_eq (tgt := 53) hx hb dX3_placeKept_17 (by decide) (fun c5_2 => ?_) (fun c5_2 => ?_)
        · have hw := hw.1 c5_2
          refine lv_aload_n hx hb dX3_placeKept_53 rfl (lv_at hl 0 rfl) ?_
          refine va_get (D := D) (ci := 3) (v := .ref hRa_places) (C := RX3) (T := TX3) (N := 11) hx hb hts inlX3 hown hK hP 0 rfl rfl 5 (by decide) (hts (.fieldLink RX3 53 "SquarePlanes$Ranking" "places" "[I") mw_6_11) (fun _ h9 => h9) rfl dX3_placeKept_54 ?_
          refine lv_iload_n hx hb dX3_placeKept_57 rfl (lv_at hl 2 rfl) ?_
          refine lv_bipush (v := (-9)) hx hb dX3_placeKept_58 (by decide) ?_
          refine va_iast hx hb hK hP hD hS 4 0 rfl rfl hw.1 dX3_placeKept_60 (fun H locs hP hD hS => ?_)
          have hw := hw.2
          have hP : va_P D vwCl (List.flatten [wRa cy hRa hRa_misfits hRa_nodals hRa_order hRa_places hRa_counted hRa_begins hPl hBu ns nn Ra_misfits Ra_nodals Ra_order_v_2 (upd Ra_places_v_2 y2_2.toNatClampNeg (-9)) Ra_keptCount Ra_least Ra_version Ra_counted Ra_begins_v_2]) H := hP
          have hD : va_D A (List.flatten [wRa cy hRa hRa_misfits hRa_nodals hRa_order hRa_places hRa_counted hRa_begins hPl hBu ns nn Ra_misfits Ra_nodals Ra_order_v_2 (upd Ra_places_v_2 y2_2.toNatClampNeg (-9)) Ra_keptCount Ra_least Ra_version Ra_counted Ra_begins_v_2]) := hD
          refine lv_iinc (v := y2_2 + 1) (lv' := [(2, .int (y2_2 + 1)), (0, .ref hRa), (1, .int p0)]) hx hb dX3_placeKept_61 hl (k := 2) rfl rfl (by decide) rfl (fun ls hl => ?_)
          refine lv_goto (tgt := 2) hx hb dX3_placeKept_64 (by decide) ?_
          exact ih2 (y2_2 + 1) Ra_order_v_2 (upd Ra_places_v_2 y2_2.toNatClampNeg (-9)) Ra_begins_v_2 _ _ ls hw hP hD hS (lv_sub hl [1, 2, 0] rfl)
        · have hw := hw.2 c5_2
          refine lv_aload_n hx hb dX3_placeKept_20 rfl (lv_at hl 0 rfl) ?_
          refine va_get (D := D) (ci := 3) (v := .ref hRa_begins) (C := RX3) (T := TX3) (N := 11) hx hb hts inlX3 hown hK hP 0 rfl rfl 10 (by decide) (hts (.fieldLink RX3 19 "SquarePlanes$Ranking" "begins" "[I") mw_6_1) (fun _ h9 => h9) rfl dX3_placeKept_21 ?_
          refine lv_aload_n hx hb dX3_placeKept_24 rfl (lv_at hl 0 rfl) ?_
          refine lv_iload_n hx hb dX3_placeKept_25 rfl (lv_at hl 2 rfl) ?_
          refine kc_i (va_runV (As := [.int y2_2]) (rest := [.ref hRa_begins]) ⟨hx, hb, hml, hown, hts⟩ (k_X3_rank l D cy hRa hRa_misfits hRa_nodals hRa_order hRa_places hRa_counted hRa_begins hPl hBu ns nn Ra_misfits Ra_nodals Ra_order_v_2 Ra_places_v_2 Ra_keptCount Ra_least Ra_version Ra_counted Ra_begins_v_2 y2_2 _ _ hw) (cwV 1 hts (gV mw_15_14 mw_15_15 mw_15_16 mw_2_0 mw_15_17) rfl rfl rfl (by decide +kernel) ⟨Nat.le_of_ble_eq_true rfl, Nat.le_of_ble_eq_true rfl⟩) (fPreV hN hK hP hD [0] rfl rfl 0 (ci := 3) rfl rfl rfl _) rfl rfl hl.1 rfl (lv_room (Nat.le_of_ble_eq_true rfl)) dX3_placeKept_26 ⟨Nat.zero_le _, Nat.zero_le _⟩) (fun r2_2 hw => ?_)
          refine lv_dup2_11 hx hb dX3_placeKept_29 rfl rfl ?_
          refine va_iald hx hb hK hP 6 0 rfl rfl hw.1 dX3_placeKept_30 ?_
          have hw := hw.2
          refine lv_dup_x2 hx hb dX3_placeKept_31 rfl rfl rfl ?_
          refine lv_iconst (v := 1) hx hb dX3_placeKept_32 (by decide) ?_
          refine lv_iadd hx hb dX3_placeKept_33 ?_
          refine lv_topi (fun x3_2 ex3_2 => ?_)
          have hw := hw x3_2 ex3_2
          refine va_iast hx hb hK hP hD hS 6 0 rfl rfl hw.1 dX3_placeKept_34 (fun H locs hP hD hS => ?_)
          have hw := hw.2
          have hP : va_P D vwCl (List.flatten [wRa cy hRa hRa_misfits hRa_nodals hRa_order hRa_places hRa_counted hRa_begins hPl hBu ns nn Ra_misfits Ra_nodals Ra_order_v_2 Ra_places_v_2 Ra_keptCount Ra_least Ra_version Ra_counted (upd Ra_begins_v_2 r2_2.toNatClampNeg x3_2)]) H := hP
          have hD : va_D A (List.flatten [wRa cy hRa hRa_misfits hRa_nodals hRa_order hRa_places hRa_counted hRa_begins hPl hBu ns nn Ra_misfits Ra_nodals Ra_order_v_2 Ra_places_v_2 Ra_keptCount Ra_least Ra_version Ra_counted (upd Ra_begins_v_2 r2_2.toNatClampNeg x3_2)]) := hD
          refine lv_topi (fun x4_2 ex4_2 => ?_)
          have hw := hw x4_2 ex4_2
          refine lv_istore_n (lv' := [(3, .int x4_2), (0, .ref hRa), (1, .int p0), (2, .int y2_2)]) hx hb dX3_placeKept_35 rfl hl (by decide) rfl (fun ls hl => ?_)
          refine lv_aload_n hx hb dX3_placeKept_36 rfl (lv_at hl 1 rfl) ?_
          refine va_get (D := D) (ci := 3) (v := .ref hRa_order) (C := RX3) (T := TX3) (N := 11) hx hb hts inlX3 hown hK hP 0 rfl rfl 4 (by decide) (hts (.fieldLink RX3 50 "SquarePlanes$Ranking" "order" "[I") mw_6_10) (fun _ h9 => h9) rfl dX3_placeKept_37 ?_
          refine lv_iload_n hx hb dX3_placeKept_40 rfl (lv_at hl 0 rfl) ?_
          refine lv_iload_n hx hb dX3_placeKept_41 rfl (lv_at hl 3 rfl) ?_
          refine va_iast hx hb hK hP hD hS 3 0 rfl rfl hw.1 dX3_placeKept_42 (fun H locs hP hD hS => ?_)
          have hw := hw.2
          have hP : va_P D vwCl (List.flatten [wRa cy hRa hRa_misfits hRa_nodals hRa_order hRa_places hRa_counted hRa_begins hPl hBu ns nn Ra_misfits Ra_nodals (upd Ra_order_v_2 x4_2.toNatClampNeg y2_2) Ra_places_v_2 Ra_keptCount Ra_least Ra_version Ra_counted (upd Ra_begins_v_2 r2_2.toNatClampNeg x3_2)]) H := hP
          have hD : va_D A (List.flatten [wRa cy hRa hRa_misfits hRa_nodals hRa_order hRa_places hRa_counted hRa_begins hPl hBu ns nn Ra_misfits Ra_nodals (upd Ra_order_v_2 x4_2.toNatClampNeg y2_2) Ra_places_v_2 Ra_keptCount Ra_least Ra_version Ra_counted (upd Ra_begins_v_2 r2_2.toNatClampNeg x3_2)]) := hD
          refine lv_aload_n hx hb dX3_placeKept_43 rfl (lv_at hl 1 rfl) ?_
          refine va_get (D := D) (ci := 3) (v := .ref hRa_places) (C := RX3) (T := TX3) (N := 11) hx hb hts inlX3 hown hK hP 0 rfl rfl 5 (by decide) (hts (.fieldLink RX3 53 "SquarePlanes$Ranking" "places" "[I") mw_6_11) (fun _ h9 => h9) rfl dX3_placeKept_44 ?_
          refine lv_iload_n hx hb dX3_placeKept_47 rfl (lv_at hl 3 rfl) ?_
          refine lv_iload_n hx hb dX3_placeKept_48 rfl (lv_at hl 0 rfl) ?_
          refine va_iast hx hb hK hP hD hS 4 0 rfl rfl hw.1 dX3_placeKept_49 (fun H locs hP hD hS => ?_)
          have hw := hw.2
          have hP : va_P D vwCl (List.flatten [wRa cy hRa hRa_misfits hRa_nodals hRa_order hRa_places hRa_counted hRa_begins hPl hBu ns nn Ra_misfits Ra_nodals (upd Ra_order_v_2 x4_2.toNatClampNeg y2_2) (upd Ra_places_v_2 y2_2.toNatClampNeg x4_2) Ra_keptCount Ra_least Ra_version Ra_counted (upd Ra_begins_v_2 r2_2.toNatClampNeg x3_2)]) H := hP
          have hD : va_D A (List.flatten [wRa cy hRa hRa_misfits hRa_nodals hRa_order hRa_places hRa_counted hRa_begins hPl hBu ns nn Ra_misfits Ra_nodals (upd Ra_order_v_2 x4_2.toNatClampNeg y2_2) (upd Ra_places_v_2 y2_2.toNatClampNeg x4_2) Ra_keptCount Ra_least Ra_version Ra_counted (upd Ra_begins_v_2 r2_2.toNatClampNeg x3_2)]) := hD
          refine lv_goto (tgt := 61) hx hb dX3_placeKept_50 (by decide) ?_
          refine lv_iinc (v := y2_2 + 1) (lv' := [(2, .int (y2_2 + 1)), (3, .int x4_2), (0, .ref hRa), (1, .int p0)]) hx hb dX3_placeKept_61 hl (k := 3) rfl rfl (by decide) rfl (fun ls hl => ?_)
          refine lv_goto (tgt := 2) hx hb dX3_placeKept_64 (by decide) ?_
          exact ih2 (y2_2 + 1) (upd Ra_order_v_2 x4_2.toNatClampNeg y2_2) (upd Ra_places_v_2 y2_2.toNatClampNeg x4_2) (upd Ra_begins_v_2 r2_2.toNatClampNeg x3_2) _ _ ls hw hP hD hS (lv_sub hl [2, 3, 0] rfl)
  refine kl2 _ ?_ n2 0 Ra_order Ra_places Ra_begins _ _ ls hw hP hD hS (lv_sub hl [1, 2, 0] rfl)
  · intro y2_2 Ra_order_v_2 Ra_places_v_2 Ra_begins_v_2 H locs ls hw hP hD hS hl
    exact W.vret hx hb hr (fun t ht hW => ⟨⟨(Ra_order_v_2, Ra_places_v_2, Ra_begins_v_2), rfl, hw, ⟨by rw [ht]; exact hP, va_K.moved hW.alike hK, hD⟩⟩, hS.F ht⟩) hS.2.2 dX3_placeKept_67
set_option maxHeartbeats 4000000 in
set_option maxRecDepth 100000 in
theorem k_X4_put (l : Launch) (D : va_G) (cy : Nat → ClassId) (hSt hSt_there hSt_xs hSt_ys hSt_zs hSt_signs hSt_weights : Nat) (St_there : Nat → Int32) (St_xs : Nat → Int32) (St_ys : Nat → Int32) (St_zs : Nat → Int32) (St_signs : Nat → Int32) (St_weights : Nat → Int32) (p0 : Int32) (p1 : Int32) (p2 : Int32) (p3 : Int32) (sz : Nat) (Q : (Nat → Int32) → (Nat → Int32) → (Nat → Int32) → (Nat → Int32) → (Nat → Int32) → (Nat → Int32) → Prop) (hw : wp_X4_put p0 p1 p2 p3 St_there St_xs St_ys St_zs St_signs St_weights Q) : Met l yX4_put (wA yX4_put cX4_put 5 none) { frames := 1, cells := 0, slots := 0, locals := 24 } (kPc [.ref hSt, .int p0, .int p1, .int p2, .int p3] D cy (List.flatten [wSt cy hSt hSt_there hSt_xs hSt_ys hSt_zs hSt_signs hSt_weights St_there St_xs St_ys St_zs St_signs St_weights]) sz) (va_Qv (fun (u : (Nat → Int32) × (Nat → Int32) × (Nat → Int32) × (Nat → Int32) × (Nat → Int32) × (Nat → Int32)) => Q u.1 u.2.1 u.2.2.1 u.2.2.2.1 u.2.2.2.2.1 u.2.2.2.2.2) (fun u t => kB D cy (va_A (List.flatten [wSt cy hSt hSt_there hSt_xs hSt_ys hSt_zs hSt_signs hSt_weights St_there St_xs St_ys St_zs St_signs St_weights]) sz) (List.flatten [wSt cy hSt hSt_there hSt_xs hSt_ys hSt_zs hSt_signs hSt_weights u.1 u.2.1 u.2.2.1 u.2.2.2.1 u.2.2.2.2.1 u.2.2.2.2.2]) t) (va_A (List.flatten [wSt cy hSt hSt_there hSt_xs hSt_ys hSt_zs hSt_signs hSt_weights St_there St_xs St_ys St_zs St_signs St_weights]) sz)) 0 0 (va_A (List.flatten [wSt cy hSt hSt_there hSt_xs hSt_ys hSt_zs hSt_signs hSt_weights St_there St_xs St_ys St_zs St_signs St_weights]) sz) := by
  refine Met.ofW (cc := cX4_put) (maxL := 5) (ret := none) (by decide) rfl ?_
  intro p e s m args below meth c s₁ B hml hv
  obtain ⟨rfl, hsz, hN, hP, hK, hD0⟩ := hv
  have hx := B.exec
  have hb := B.bytes
  have hr := B.returns
  have hts0 := atoms_spec (ws := wA yX4_put cX4_put 5 none) B.pre
  have hts := fun w (h : w ∈ wsL_law) => hts0 w (List.mem_cons_of_mem _ h)
  have hown : s.vm.findClass RX4 = some m.cls := findClass_of_methodNamed B.named
  have hlocks := B.notSynchronized
  subst hsz
  have hD := hD0.self (sz := s.heap.size)
  generalize hAe : va_A (List.flatten [wSt cy hSt hSt_there hSt_xs hSt_ys hSt_zs hSt_signs hSt_weights St_there St_xs St_ys St_zs St_signs St_weights]) s.heap.size = A at hD ⊢
  have hA : ∀ q : Nat, s.heap.size ≤ q → A q := fun q h => by rw [← hAe]; exact Or.inr h
  have hS : va_S A s.heap s.heap [] := va_S.rf
  have hP : va_P D vwCl (List.flatten [wSt cy hSt hSt_there hSt_xs hSt_ys hSt_zs hSt_signs hSt_weights St_there St_xs St_ys St_zs St_signs St_weights]) s.heap := hP
  have hl := lv_entry ([.ref hSt, .int p0, .int p1, .int p2, .int p3]) (n := 5) (Nat.le_of_ble_eq_true rfl)
  rw [lg_entry_eq]
  generalize (lg_sl ([.ref hSt, .int p0, .int p1, .int p2, .int p3]) ++ List.replicate (5 - (lg_sl ([.ref hSt, .int p0, .int p1, .int p2, .int p3])).length) Slot.unset).toArray = ls at hl ⊢
  have hl : lv_has ls 5 [(0, .ref hSt), (1, .int p0), (2, .int p1), (3, .int p2), (4, .int p3)] := hl
  unfold wp_X4_put at hw
  refine lv_aload_n hx hb dX4_put_0 rfl (lv_at hl 0 rfl) ?_
  refine va_get (D := D) (ci := 4) (v := .ref hSt_there) (C := RX4) (T := TX4) (N := 6) hx hb hts inlX4 hown hK hP 0 rfl rfl 0 (by decide) (hts (.fieldLink RX4 9 "SquarePlanes$Stations" "there" "[Z") mw_2_12) (fun _ h9 => h9) rfl dX4_put_1 ?_
  refine lv_iload_n hx hb dX4_put_4 rfl (lv_at hl 1 rfl) ?_
  refine lv_iconst (v := 1) hx hb dX4_put_5 (by decide) ?_
  refine va_zast hx hb hK hP hD hS 1 1 rfl rfl hw.1 dX4_put_6 (fun H locs hP hD hS => ?_)
  have hw := hw.2
  have hP : va_P D vwCl (List.flatten [wSt cy hSt hSt_there hSt_xs hSt_ys hSt_zs hSt_signs hSt_weights (upd St_there p0.toNatClampNeg 1) St_xs St_ys St_zs St_signs St_weights]) H := hP
  have hD : va_D A (List.flatten [wSt cy hSt hSt_there hSt_xs hSt_ys hSt_zs hSt_signs hSt_weights (upd St_there p0.toNatClampNeg 1) St_xs St_ys St_zs St_signs St_weights]) := hD
  refine lv_aload_n hx hb dX4_put_7 rfl (lv_at hl 0 rfl) ?_
  refine va_get (D := D) (ci := 4) (v := .ref hSt_signs) (C := RX4) (T := TX4) (N := 6) hx hb hts inlX4 hown hK hP 0 rfl rfl 4 (by decide) (hts (.fieldLink RX4 25 "SquarePlanes$Stations" "signs" "[I") mw_2_17) (fun _ h9 => h9) rfl dX4_put_8 ?_
  refine lv_iload_n hx hb dX4_put_11 rfl (lv_at hl 1 rfl) ?_
  refine lv_iconst (v := 0) hx hb dX4_put_12 (by decide) ?_
  refine va_iast hx hb hK hP hD hS 5 0 rfl rfl hw.1 dX4_put_13 (fun H locs hP hD hS => ?_)
  have hw := hw.2
  have hP : va_P D vwCl (List.flatten [wSt cy hSt hSt_there hSt_xs hSt_ys hSt_zs hSt_signs hSt_weights (upd St_there p0.toNatClampNeg 1) St_xs St_ys St_zs (upd St_signs p0.toNatClampNeg 0) St_weights]) H := hP
  have hD : va_D A (List.flatten [wSt cy hSt hSt_there hSt_xs hSt_ys hSt_zs hSt_signs hSt_weights (upd St_there p0.toNatClampNeg 1) St_xs St_ys St_zs (upd St_signs p0.toNatClampNeg 0) St_weights]) := hD
  refine lv_aload_n hx hb dX4_put_14 rfl (lv_at hl 0 rfl) ?_
  refine va_get (D := D) (ci := 4) (v := .ref hSt_weights) (C := RX4) (T := TX4) (N := 6) hx hb hts inlX4 hown hK hP 0 rfl rfl 5 (by decide) (hts (.fieldLink RX4 28 "SquarePlanes$Stations" "weights" "[I") mw_2_18) (fun _ h9 => h9) rfl dX4_put_15 ?_
  refine lv_iload_n hx hb dX4_put_18 rfl (lv_at hl 1 rfl) ?_
  refine lv_iconst (v := 1) hx hb dX4_put_19 (by decide) ?_
  refine va_iast hx hb hK hP hD hS 6 0 rfl rfl hw.1 dX4_put_20 (fun H locs hP hD hS => ?_)
  have hw := hw.2
  have hP : va_P D vwCl (List.flatten [wSt cy hSt hSt_there hSt_xs hSt_ys hSt_zs hSt_signs hSt_weights (upd St_there p0.toNatClampNeg 1) St_xs St_ys St_zs (upd St_signs p0.toNatClampNeg 0) (upd St_weights p0.toNatClampNeg 1)]) H := hP
  have hD : va_D A (List.flatten [wSt cy hSt hSt_there hSt_xs hSt_ys hSt_zs hSt_signs hSt_weights (upd St_there p0.toNatClampNeg 1) St_xs St_ys St_zs (upd St_signs p0.toNatClampNeg 0) (upd St_weights p0.toNatClampNeg 1)]) := hD
  refine lv_aload_n hx hb dX4_put_21 rfl (lv_at hl 0 rfl) ?_
  refine lv_iload_n hx hb dX4_put_22 rfl (lv_at hl 1 rfl) ?_
  refine lv_iload_n hx hb dX4_put_23 rfl (lv_at hl 2 rfl) ?_
  refine lv_iload_n hx hb dX4_put_24 rfl (lv_at hl 3 rfl) ?_
  refine lv_iload hx hb dX4_put_25 (lv_at hl 4 rfl) ?_
  refine fd_v [0] [] hP hD hS hA rfl rfl rfl (by decide) (va_runV (As := [.int p0, .int p1, .int p2, .int p3]) (rest := []) ⟨hx, hb, hml, hown, hts⟩ (k_X4_aim l D cy hSt hSt_there hSt_xs hSt_ys hSt_zs hSt_signs hSt_weights (upd St_there p0.toNatClampNeg 1) St_xs St_ys St_zs (upd St_signs p0.toNatClampNeg 0) (upd St_weights p0.toNatClampNeg 1) p0 p1 p2 p3 _ _ hw) (cwV 4 hts (gV mw_9_21 mw_9_22 mw_9_23 mw_1_14 mw_10_0) rfl rfl rfl (by decide +kernel) ⟨Nat.le_of_ble_eq_true rfl, Nat.le_of_ble_eq_true rfl⟩) (fPreV hN hK hP hD [0] rfl rfl 0 (ci := 4) rfl rfl rfl _) rfl rfl hl.1 rfl (lv_room (Nat.le_of_ble_eq_true rfl)) dX4_put_27 ⟨Nat.zero_le _, Nat.zero_le _⟩) (fun u H locs hw hP hD hS => ?_)
  obtain ⟨w1, w2, w3⟩ := u
  try dsimp only at hw
  have hP : va_P D vwCl (List.flatten [wSt cy hSt hSt_there hSt_xs hSt_ys hSt_zs hSt_signs hSt_weights (upd St_there p0.toNatClampNeg 1) w1 w2 w3 (upd St_signs p0.toNatClampNeg 0) (upd St_weights p0.toNatClampNeg 1)]) H := fl_P hP [0] rfl
  have hD : va_D A (List.flatten [wSt cy hSt hSt_there hSt_xs hSt_ys hSt_zs hSt_signs hSt_weights (upd St_there p0.toNatClampNeg 1) w1 w2 w3 (upd St_signs p0.toNatClampNeg 0) (upd St_weights p0.toNatClampNeg 1)]) := fl_D hD [0] rfl rfl
  exact W.vret hx hb hr (fun t ht hW => ⟨⟨(upd St_there p0.toNatClampNeg 1, w1, w2, w3, upd St_signs p0.toNatClampNeg 0, upd St_weights p0.toNatClampNeg 1), rfl, hw, ⟨by rw [ht]; exact hP, va_K.moved hW.alike hK, hD⟩⟩, hS.F ht⟩) hS.2.2 dX4_put_30
set_option maxHeartbeats 4000000 in
set_option maxRecDepth 100000 in
theorem k_X4_signedWeight (l : Launch) (D : va_G) (cy : Nat → ClassId) (hSt hSt_there hSt_xs hSt_ys hSt_zs hSt_signs hSt_weights : Nat) (St_there : Nat → Int32) (St_xs : Nat → Int32) (St_ys : Nat → Int32) (St_zs : Nat → Int32) (St_signs : Nat → Int32) (St_weights : Nat → Int32) (sz : Nat) (Q : Int32 → Prop) (hw : wp_X4_signedWeight St_there St_signs St_weights Q) : Met l yX4_signedWeight (wA yX4_signedWeight cX4_signedWeight 3 (some .int)) { frames := 1, cells := 0, slots := 0, locals := 21 } (kPc [.ref hSt] D cy (List.flatten [wSt cy hSt hSt_there hSt_xs hSt_ys hSt_zs hSt_signs hSt_weights St_there St_xs St_ys St_zs St_signs St_weights]) sz) (kSi Q) 0 0 (fun _ => False) := by
  refine Met.ofW (cc := cX4_signedWeight) (maxL := 3) (ret := (some .int)) (by decide) rfl ?_
  intro p e s m args below meth c s₁ B hml hv
  obtain ⟨rfl, hsz, hN, hP, hK, hD0⟩ := hv
  have hx := B.exec
  have hb := B.bytes
  have hr := B.returns
  have hts0 := atoms_spec (ws := wA yX4_signedWeight cX4_signedWeight 3 (some .int)) B.pre
  have hts := fun w (h : w ∈ wsL_law) => hts0 w (List.mem_cons_of_mem _ h)
  have hown : s.vm.findClass RX4 = some m.cls := findClass_of_methodNamed B.named
  have hlocks := B.notSynchronized
  subst hsz
  have hD := hD0
  have hl := lv_entry ([.ref hSt]) (n := 3) (Nat.le_of_ble_eq_true rfl)
  rw [lg_entry_eq]
  generalize (lg_sl ([.ref hSt]) ++ List.replicate (3 - (lg_sl ([.ref hSt])).length) Slot.unset).toArray = ls at hl ⊢
  have hl : lv_has ls 3 [(0, .ref hSt)] := hl
  unfold wp_X4_signedWeight at hw
  refine lv_iconst (v := 0) hx hb dX4_signedWeight_0 (by decide) ?_
  refine lv_istore_n (lv' := [(1, .int 0), (0, .ref hSt)]) hx hb dX4_signedWeight_1 rfl hl (by decide) rfl (fun ls hl => ?_)
  refine lv_iconst (v := 0) hx hb dX4_signedWeight_2 (by decide) ?_
  refine lv_istore_n (lv' := [(2, .int 0), (1, .int 0), (0, .ref hSt)]) hx hb dX4_signedWeight_3 rfl hl (by decide) rfl (fun ls hl => ?_)
  obtain ⟨n4, hw⟩ := hw
  have kl4 : ∀ (K4_33 : Int32 → Int32 → Prop) (hk4_33 : ∀ (y1_4 : Int32) (y2_4 : Int32) (ls : Array Slot), K4_33 y1_4 y2_4 → lv_has ls 3 [(0, .ref hSt), (1, .int y1_4), (2, .int y2_4)] → W p l e (headSpec (wA yX4_signedWeight cX4_signedWeight 3 (some .int)) { frames := 1, cells := 0, slots := 0, locals := 21 }).room s m #[.ref hSt] below meth c s.heap [] 0 0 (MQ below (kSi Q) #[.ref hSt] s 0 0 (fun _ => False)) (F0 m 33 ls [])) (n : Nat) (y1_4 : Int32) (y2_4 : Int32) (ls : Array Slot), wp_X4_signedWeight_L4 St_there St_signs St_weights K4_33 n y1_4 y2_4 → lv_has ls 3 [(0, .ref hSt), (1, .int y1_4), (2, .int y2_4)] → W p l e (headSpec (wA yX4_signedWeight cX4_signedWeight 3 (some .int)) { frames := 1, cells := 0, slots := 0, locals := 21 }).room s m #[.ref hSt] below meth c s.heap [] 0 0 (MQ below (kSi Q) #[.ref hSt] s 0 0 (fun _ => False)) (F0 m 4 ls []) := by
    intro K4_33 hk4_33 n
    induction n with
    | zero =>
      intro y1_4 y2_4 ls hw
      exact hw.elim
    | succ n ih4 =>
      intro y1_4 y2_4 ls hw hl
      unfold wp_X4_signedWeight_L4 at hw
      refine lv_iload_n hx hb dX4_signedWeight_4 rfl (lv_at hl 2 rfl) ?_
      refine lv_bipush (v := 24) hx hb dX4_signedWeight_5 (by decide) ?_
      refine lv_icmp_ge (tgt := 33) hx hb dX4_signedWeight_7 (by decide) (fun c4_4 => ?_) (fun c4_4 => ?_)
      · have hw := hw.1 c4_4
        exact hk4_33 y1_4 y2_4 ls hw (lv_sub hl [0, 1, 2] rfl)
      · have hw := hw.2 c4_4
        refine lv_aload_n hx hb dX4_signedWeight_10 rfl (lv_at hl 0 rfl) ?_
        refine lv_iload_n hx hb dX4_signedWeight_11 rfl (lv_at hl 2 rfl) ?_
        refine kc_i (va_runV (As := [.int y2_4]) (rest := []) ⟨hx, hb, hml, hown, hts⟩ (k_X4_isSigned l D cy hSt hSt_there hSt_xs hSt_ys hSt_zs hSt_signs hSt_weights St_there St_xs St_ys St_zs St_signs St_weights y2_4 _ _ hw) (cwV 1 hts (gV mw_22_5 mw_14_6 mw_14_7 mw_1_14 mw_14_8) rfl rfl rfl (by decide +kernel) ⟨Nat.le_of_ble_eq_true rfl, Nat.le_of_ble_eq_true rfl⟩) (fPreV hN hK hP hD [0] rfl rfl 0 (ci := 4) rfl rfl rfl _) rfl rfl hl.1 rfl (lv_room (Nat.le_of_ble_eq_true rfl)) dX4_signedWeight_12 ⟨Nat.zero_le _, Nat.zero_le _⟩) (fun r1_4 hw => ?_)
        refine lv_if_eq (tgt := 27) hx hb dX4_signedWeight_15 (by decide) (fun c3_4 => ?_) (fun c3_4 => ?_)
        · have hw := hw.1 c3_4
          refine lv_iinc (v := y2_4 + 1) (lv' := [(2, .int (y2_4 + 1)), (0, .ref hSt), (1, .int y1_4)]) hx hb dX4_signedWeight_27 hl (k := 2) rfl rfl (by decide) rfl (fun ls hl => ?_)
          refine lv_goto (tgt := 4) hx hb dX4_signedWeight_30 (by decide) ?_
          exact ih4 y1_4 (y2_4 + 1) ls hw (lv_sub hl [1, 2, 0] rfl)
        · have hw := hw.2 c3_4
          refine lv_iload_n hx hb dX4_signedWeight_18 rfl (lv_at hl 1 rfl) ?_
          refine lv_aload_n hx hb dX4_signedWeight_19 rfl (lv_at hl 0 rfl) ?_
          refine va_get (D := D) (ci := 4) (v := .ref hSt_weights) (C := RX4) (T := TX4) (N := 6) hx hb hts inlX4 hown hK hP 0 rfl rfl 5 (by decide) (hts (.fieldLink RX4 28 "SquarePlanes$Stations" "weights" "[I") mw_2_18) (fun _ h9 => h9) rfl dX4_signedWeight_20 ?_
          refine lv_iload_n hx hb dX4_signedWeight_23 rfl (lv_at hl 2 rfl) ?_
          refine va_iald hx hb hK hP 6 0 rfl rfl hw.1 dX4_signedWeight_24 ?_
          have hw := hw.2
          refine lv_iadd hx hb dX4_signedWeight_25 ?_
          refine lv_topi (fun x2_4 ex2_4 => ?_)
          have hw := hw x2_4 ex2_4
          refine lv_istore_n (lv' := [(1, .int x2_4), (0, .ref hSt), (2, .int y2_4)]) hx hb dX4_signedWeight_26 rfl hl (by decide) rfl (fun ls hl => ?_)
          refine lv_iinc (v := y2_4 + 1) (lv' := [(2, .int (y2_4 + 1)), (1, .int x2_4), (0, .ref hSt)]) hx hb dX4_signedWeight_27 hl (k := 2) rfl rfl (by decide) rfl (fun ls hl => ?_)
          refine lv_goto (tgt := 4) hx hb dX4_signedWeight_30 (by decide) ?_
          exact ih4 x2_4 (y2_4 + 1) ls hw (lv_sub hl [2, 1, 0] rfl)
  refine kl4 _ ?_ n4 0 0 ls hw (lv_sub hl [2, 1, 0] rfl)
  · intro y1_4 y2_4 ls hw hl
    refine lv_iload_n hx hb dX4_signedWeight_33 rfl (lv_at hl 1 rfl) ?_
    exact W.iret (v := y1_4) hx hb hr (fun t ht hW => ⟨y1_4, rfl, hw, ht⟩) (fun q h => by cases h) dX4_signedWeight_34
set_option maxHeartbeats 4000000 in
set_option maxRecDepth 100000 in
theorem k_X4_turnOne (l : Launch) (D : va_G) (cy : Nat → ClassId) (hSt hSt_there hSt_xs hSt_ys hSt_zs hSt_signs hSt_weights : Nat) (St_there : Nat → Int32) (St_xs : Nat → Int32) (St_ys : Nat → Int32) (St_zs : Nat → Int32) (St_signs : Nat → Int32) (St_weights : Nat → Int32) (p0 : Int32) (p1 : Int32) (sz : Nat) (Q : Int32 → (Nat → Int32) → (Nat → Int32) → (Nat → Int32) → Prop) (hw : wp_X4_turnOne p0 p1 St_xs St_ys St_zs Q) : Met l yX4_turnOne (wA yX4_turnOne cX4_turnOne 6 (some .boolean)) { frames := 1, cells := 0, slots := 0, locals := 24 } (kPc [.ref hSt, .int p0, .int p1] D cy (List.flatten [wSt cy hSt hSt_there hSt_xs hSt_ys hSt_zs hSt_signs hSt_weights St_there St_xs St_ys St_zs St_signs St_weights]) sz) (va_Qi (fun (r : Int32) (u : (Nat → Int32) × (Nat → Int32) × (Nat → Int32)) => Q r u.1 u.2.1 u.2.2) (fun u t => kB D cy (va_A (List.flatten [wSt cy hSt hSt_there hSt_xs hSt_ys hSt_zs hSt_signs hSt_weights St_there St_xs St_ys St_zs St_signs St_weights]) sz) (List.flatten [wSt cy hSt hSt_there hSt_xs hSt_ys hSt_zs hSt_signs hSt_weights St_there u.1 u.2.1 u.2.2 St_signs St_weights]) t) (va_A (List.flatten [wSt cy hSt hSt_there hSt_xs hSt_ys hSt_zs hSt_signs hSt_weights St_there St_xs St_ys St_zs St_signs St_weights]) sz)) 0 0 (va_A (List.flatten [wSt cy hSt hSt_there hSt_xs hSt_ys hSt_zs hSt_signs hSt_weights St_there St_xs St_ys St_zs St_signs St_weights]) sz) := by
  refine Met.ofW (cc := cX4_turnOne) (maxL := 6) (ret := (some .boolean)) (by decide) rfl ?_
  intro p e s m args below meth c s₁ B hml hv
  obtain ⟨rfl, hsz, hN, hP, hK, hD0⟩ := hv
  have hx := B.exec
  have hb := B.bytes
  have hr := B.returns
  have hts0 := atoms_spec (ws := wA yX4_turnOne cX4_turnOne 6 (some .boolean)) B.pre
  have hts := fun w (h : w ∈ wsL_law) => hts0 w (List.mem_cons_of_mem _ h)
  have hown : s.vm.findClass RX4 = some m.cls := findClass_of_methodNamed B.named
  have hlocks := B.notSynchronized
  subst hsz
  have hD := hD0.self (sz := s.heap.size)
  generalize hAe : va_A (List.flatten [wSt cy hSt hSt_there hSt_xs hSt_ys hSt_zs hSt_signs hSt_weights St_there St_xs St_ys St_zs St_signs St_weights]) s.heap.size = A at hD ⊢
  have hA : ∀ q : Nat, s.heap.size ≤ q → A q := fun q h => by rw [← hAe]; exact Or.inr h
  have hS : va_S A s.heap s.heap [] := va_S.rf
  have hP : va_P D vwCl (List.flatten [wSt cy hSt hSt_there hSt_xs hSt_ys hSt_zs hSt_signs hSt_weights St_there St_xs St_ys St_zs St_signs St_weights]) s.heap := hP
  have hl := lv_entry ([.ref hSt, .int p0, .int p1]) (n := 6) (Nat.le_of_ble_eq_true rfl)
  rw [lg_entry_eq]
  generalize (lg_sl ([.ref hSt, .int p0, .int p1]) ++ List.replicate (6 - (lg_sl ([.ref hSt, .int p0, .int p1])).length) Slot.unset).toArray = ls at hl ⊢
  have hl : lv_has ls 6 [(0, .ref hSt), (1, .int p0), (2, .int p1)] := hl
  unfold wp_X4_turnOne at hw
  refine lv_aload_n hx hb dX4_turnOne_0 rfl (lv_at hl 0 rfl) ?_
  refine va_get (D := D) (ci := 4) (v := .ref hSt_xs) (C := RX4) (T := TX4) (N := 6) hx hb hts inlX4 hown hK hP 0 rfl rfl 1 (by decide) (hts (.fieldLink RX4 15 "SquarePlanes$Stations" "xs" "[I") mw_2_14) (fun _ h9 => h9) rfl dX4_turnOne_1 ?_
  refine lv_iload_n hx hb dX4_turnOne_4 rfl (lv_at hl 1 rfl) ?_
  refine va_iald hx hb hK hP 2 0 rfl rfl hw.1 dX4_turnOne_5 ?_
  have hw := hw.2
  refine lv_topi (fun x1 ex1 => ?_)
  have hw := hw x1 ex1
  refine lv_istore_n (lv' := [(3, .int x1), (0, .ref hSt), (1, .int p0), (2, .int p1)]) hx hb dX4_turnOne_6 rfl hl (by decide) rfl (fun ls hl => ?_)
  refine lv_aload_n hx hb dX4_turnOne_7 rfl (lv_at hl 1 rfl) ?_
  refine va_get (D := D) (ci := 4) (v := .ref hSt_ys) (C := RX4) (T := TX4) (N := 6) hx hb hts inlX4 hown hK hP 0 rfl rfl 2 (by decide) (hts (.fieldLink RX4 19 "SquarePlanes$Stations" "ys" "[I") mw_2_15) (fun _ h9 => h9) rfl dX4_turnOne_8 ?_
  refine lv_iload_n hx hb dX4_turnOne_11 rfl (lv_at hl 2 rfl) ?_
  refine va_iald hx hb hK hP 3 0 rfl rfl hw.1 dX4_turnOne_12 ?_
  have hw := hw.2
  refine lv_topi (fun x2 ex2 => ?_)
  have hw := hw x2 ex2
  refine lv_istore (lv' := [(4, .int x2), (3, .int x1), (0, .ref hSt), (1, .int p0), (2, .int p1)]) hx hb dX4_turnOne_13 hl (by decide) rfl (fun ls hl => ?_)
  refine lv_aload_n hx hb dX4_turnOne_15 rfl (lv_at hl 2 rfl) ?_
  refine va_get (D := D) (ci := 4) (v := .ref hSt_zs) (C := RX4) (T := TX4) (N := 6) hx hb hts inlX4 hown hK hP 0 rfl rfl 3 (by decide) (hts (.fieldLink RX4 22 "SquarePlanes$Stations" "zs" "[I") mw_2_16) (fun _ h9 => h9) rfl dX4_turnOne_16 ?_
  refine lv_iload_n hx hb dX4_turnOne_19 rfl (lv_at hl 3 rfl) ?_
  refine va_iald hx hb hK hP 4 0 rfl rfl hw.1 dX4_turnOne_20 ?_
  have hw := hw.2
  refine lv_topi (fun x3 ex3 => ?_)
  have hw := hw x3 ex3
  refine lv_istore (lv' := [(5, .int x3), (4, .int x2), (3, .int x1), (0, .ref hSt), (1, .int p0), (2, .int p1)]) hx hb dX4_turnOne_21 hl (by decide) rfl (fun ls hl => ?_)
  refine lv_iload_n hx hb dX4_turnOne_23 rfl (lv_at hl 5 rfl) ?_
  by_cases c4_0 : p1 = 0
  · have hw := hw.1 c4_0
    have tv : (p1).toInt = 0 := by rw [c4_0]; rfl
    refine lv_tableIn (tgt := 52) hx hb dX4_turnOne_24 (by rw [tv]; decide) (by rw [tv]; decide) (by rw [tv]; rfl) (by decide) ?_
    refine lv_aload_n hx hb dX4_turnOne_52 rfl (lv_at hl 3 rfl) ?_
    refine lv_iload_n hx hb dX4_turnOne_53 rfl (lv_at hl 4 rfl) ?_
    refine lv_iload_n hx hb dX4_turnOne_54 rfl (lv_at hl 2 rfl) ?_
    refine lv_iload hx hb dX4_turnOne_55 (lv_at hl 0 rfl) ?_
    refine lv_ineg hx hb dX4_turnOne_57 ?_
    refine lv_iload hx hb dX4_turnOne_58 (lv_at hl 1 rfl) ?_
    refine fd_v [0] [] hP hD hS hA rfl rfl rfl (by decide) (va_runV (As := [.int p0, .int x1, .int (-x3), .int x2]) (rest := []) ⟨hx, hb, hml, hown, hts⟩ (k_X4_aim l D cy hSt hSt_there hSt_xs hSt_ys hSt_zs hSt_signs hSt_weights St_there St_xs St_ys St_zs St_signs St_weights p0 x1 (-x3) x2 _ _ hw) (cwV 4 hts (gV mw_9_21 mw_9_22 mw_9_23 mw_1_14 mw_10_0) rfl rfl rfl (by decide +kernel) ⟨Nat.le_of_ble_eq_true rfl, Nat.le_of_ble_eq_true rfl⟩) (fPreV hN hK hP hD [0] rfl rfl 0 (ci := 4) rfl rfl rfl _) rfl rfl hl.1 rfl (lv_room (Nat.le_of_ble_eq_true rfl)) dX4_turnOne_60 ⟨Nat.zero_le _, Nat.zero_le _⟩) (fun u H locs hw hP hD hS => ?_)
    obtain ⟨w5, w6, w7⟩ := u
    try dsimp only at hw
    have hP : va_P D vwCl (List.flatten [wSt cy hSt hSt_there hSt_xs hSt_ys hSt_zs hSt_signs hSt_weights St_there w5 w6 w7 St_signs St_weights]) H := fl_P hP [0] rfl
    have hD : va_D A (List.flatten [wSt cy hSt hSt_there hSt_xs hSt_ys hSt_zs hSt_signs hSt_weights St_there w5 w6 w7 St_signs St_weights]) := fl_D hD [0] rfl rfl
    refine lv_goto (tgt := 105) hx hb dX4_turnOne_63 (by decide) ?_
    refine lv_aload_n hx hb dX4_turnOne_105 rfl (lv_at hl 3 rfl) ?_
    refine va_get (D := D) (ci := 4) (v := .ref hSt_xs) (C := RX4) (T := TX4) (N := 6) hx hb hts inlX4 hown hK hP 0 rfl rfl 1 (by decide) (hts (.fieldLink RX4 15 "SquarePlanes$Stations" "xs" "[I") mw_2_14) (fun _ h9 => h9) rfl dX4_turnOne_106 ?_
    refine lv_iload_n hx hb dX4_turnOne_109 rfl (lv_at hl 4 rfl) ?_
    refine va_iald hx hb hK hP 2 0 rfl rfl hw.1 dX4_turnOne_110 ?_
    have hw := hw.2
    refine lv_iload_n hx hb dX4_turnOne_111 rfl (lv_at hl 2 rfl) ?_
    refine lv_icmp_ne (tgt := 137) hx hb dX4_turnOne_112 (by decide) (fun c10 => ?_) (fun c10 => ?_)
    · have hw := hw.2 c10
      refine lv_iconst (v := 1) hx hb dX4_turnOne_137 (by decide) ?_
      refine lv_goto (tgt := 142) hx hb dX4_turnOne_138 (by decide) ?_
      exact W.zret (v := 1) hx hb hr rfl (fun t ht hW => ⟨⟨1, (w5, w6, w7), rfl, hw, ⟨by rw [ht]; exact hP, va_K.moved hW.alike hK, hD⟩⟩, hS.F ht⟩) hS.2.2 dX4_turnOne_142
    · have hw := hw.1 c10
      refine lv_aload_n hx hb dX4_turnOne_115 rfl (lv_at hl 3 rfl) ?_
      refine va_get (D := D) (ci := 4) (v := .ref hSt_ys) (C := RX4) (T := TX4) (N := 6) hx hb hts inlX4 hown hK hP 0 rfl rfl 2 (by decide) (hts (.fieldLink RX4 19 "SquarePlanes$Stations" "ys" "[I") mw_2_15) (fun _ h9 => h9) rfl dX4_turnOne_116 ?_
      refine lv_iload_n hx hb dX4_turnOne_119 rfl (lv_at hl 4 rfl) ?_
      refine va_iald hx hb hK hP 3 0 rfl rfl hw.1 dX4_turnOne_120 ?_
      have hw := hw.2
      refine lv_iload hx hb dX4_turnOne_121 (lv_at hl 1 rfl) ?_
      refine lv_icmp_ne (tgt := 137) hx hb dX4_turnOne_123 (by decide) (fun c9 => ?_) (fun c9 => ?_)
      · have hw := hw.2 c9
        refine lv_iconst (v := 1) hx hb dX4_turnOne_137 (by decide) ?_
        refine lv_goto (tgt := 142) hx hb dX4_turnOne_138 (by decide) ?_
        exact W.zret (v := 1) hx hb hr rfl (fun t ht hW => ⟨⟨1, (w5, w6, w7), rfl, hw, ⟨by rw [ht]; exact hP, va_K.moved hW.alike hK, hD⟩⟩, hS.F ht⟩) hS.2.2 dX4_turnOne_142
      · have hw := hw.1 c9
        refine lv_aload_n hx hb dX4_turnOne_126 rfl (lv_at hl 3 rfl) ?_
        refine va_get (D := D) (ci := 4) (v := .ref hSt_zs) (C := RX4) (T := TX4) (N := 6) hx hb hts inlX4 hown hK hP 0 rfl rfl 3 (by decide) (hts (.fieldLink RX4 22 "SquarePlanes$Stations" "zs" "[I") mw_2_16) (fun _ h9 => h9) rfl dX4_turnOne_127 ?_
        refine lv_iload_n hx hb dX4_turnOne_130 rfl (lv_at hl 4 rfl) ?_
        refine va_iald hx hb hK hP 4 0 rfl rfl hw.1 dX4_turnOne_131 ?_
        have hw := hw.2
        refine lv_iload hx hb dX4_turnOne_132 (lv_at hl 0 rfl) ?_
        refine lv_icmp_eq (tgt := 141) hx hb dX4_turnOne_134 (by decide) (fun c8 => ?_) (fun c8 => ?_)
        · have hw := hw.1 c8
          refine lv_iconst (v := 0) hx hb dX4_turnOne_141 (by decide) ?_
          exact W.zret (v := 0) hx hb hr rfl (fun t ht hW => ⟨⟨0, (w5, w6, w7), rfl, hw, ⟨by rw [ht]; exact hP, va_K.moved hW.alike hK, hD⟩⟩, hS.F ht⟩) hS.2.2 dX4_turnOne_142
        · have hw := hw.2 c8
          refine lv_iconst (v := 1) hx hb dX4_turnOne_137 (by decide) ?_
          refine lv_goto (tgt := 142) hx hb dX4_turnOne_138 (by decide) ?_
          exact W.zret (v := 1) hx hb hr rfl (fun t ht hW => ⟨⟨1, (w5, w6, w7), rfl, hw, ⟨by rw [ht]; exact hP, va_K.moved hW.alike hK, hD⟩⟩, hS.F ht⟩) hS.2.2 dX4_turnOne_142
  by_cases c4_1 : p1 = 1
  · have hw := hw.2.1 c4_1
    have tv : (p1).toInt = 1 := by rw [c4_1]; rfl
    refine lv_tableIn (tgt := 66) hx hb dX4_turnOne_24 (by rw [tv]; decide) (by rw [tv]; decide) (by rw [tv]; rfl) (by decide) ?_
    refine lv_aload_n hx hb dX4_turnOne_66 rfl (lv_at hl 3 rfl) ?_
    refine lv_iload_n hx hb dX4_turnOne_67 rfl (lv_at hl 4 rfl) ?_
    refine lv_iload hx hb dX4_turnOne_68 (lv_at hl 0 rfl) ?_
    refine lv_iload hx hb dX4_turnOne_70 (lv_at hl 1 rfl) ?_
    refine lv_iload_n hx hb dX4_turnOne_72 rfl (lv_at hl 2 rfl) ?_
    refine lv_ineg hx hb dX4_turnOne_73 ?_
    refine fd_v [0] [] hP hD hS hA rfl rfl rfl (by decide) (va_runV (As := [.int p0, .int x3, .int x2, .int (-x1)]) (rest := []) ⟨hx, hb, hml, hown, hts⟩ (k_X4_aim l D cy hSt hSt_there hSt_xs hSt_ys hSt_zs hSt_signs hSt_weights St_there St_xs St_ys St_zs St_signs St_weights p0 x3 x2 (-x1) _ _ hw) (cwV 4 hts (gV mw_9_21 mw_9_22 mw_9_23 mw_1_14 mw_10_0) rfl rfl rfl (by decide +kernel) ⟨Nat.le_of_ble_eq_true rfl, Nat.le_of_ble_eq_true rfl⟩) (fPreV hN hK hP hD [0] rfl rfl 0 (ci := 4) rfl rfl rfl _) rfl rfl hl.1 rfl (lv_room (Nat.le_of_ble_eq_true rfl)) dX4_turnOne_74 ⟨Nat.zero_le _, Nat.zero_le _⟩) (fun u H locs hw hP hD hS => ?_)
    obtain ⟨w11, w12, w13⟩ := u
    try dsimp only at hw
    have hP : va_P D vwCl (List.flatten [wSt cy hSt hSt_there hSt_xs hSt_ys hSt_zs hSt_signs hSt_weights St_there w11 w12 w13 St_signs St_weights]) H := fl_P hP [0] rfl
    have hD : va_D A (List.flatten [wSt cy hSt hSt_there hSt_xs hSt_ys hSt_zs hSt_signs hSt_weights St_there w11 w12 w13 St_signs St_weights]) := fl_D hD [0] rfl rfl
    refine lv_goto (tgt := 105) hx hb dX4_turnOne_77 (by decide) ?_
    refine lv_aload_n hx hb dX4_turnOne_105 rfl (lv_at hl 3 rfl) ?_
    refine va_get (D := D) (ci := 4) (v := .ref hSt_xs) (C := RX4) (T := TX4) (N := 6) hx hb hts inlX4 hown hK hP 0 rfl rfl 1 (by decide) (hts (.fieldLink RX4 15 "SquarePlanes$Stations" "xs" "[I") mw_2_14) (fun _ h9 => h9) rfl dX4_turnOne_106 ?_
    refine lv_iload_n hx hb dX4_turnOne_109 rfl (lv_at hl 4 rfl) ?_
    refine va_iald hx hb hK hP 2 0 rfl rfl hw.1 dX4_turnOne_110 ?_
    have hw := hw.2
    refine lv_iload_n hx hb dX4_turnOne_111 rfl (lv_at hl 2 rfl) ?_
    refine lv_icmp_ne (tgt := 137) hx hb dX4_turnOne_112 (by decide) (fun c16 => ?_) (fun c16 => ?_)
    · have hw := hw.2 c16
      refine lv_iconst (v := 1) hx hb dX4_turnOne_137 (by decide) ?_
      refine lv_goto (tgt := 142) hx hb dX4_turnOne_138 (by decide) ?_
      exact W.zret (v := 1) hx hb hr rfl (fun t ht hW => ⟨⟨1, (w11, w12, w13), rfl, hw, ⟨by rw [ht]; exact hP, va_K.moved hW.alike hK, hD⟩⟩, hS.F ht⟩) hS.2.2 dX4_turnOne_142
    · have hw := hw.1 c16
      refine lv_aload_n hx hb dX4_turnOne_115 rfl (lv_at hl 3 rfl) ?_
      refine va_get (D := D) (ci := 4) (v := .ref hSt_ys) (C := RX4) (T := TX4) (N := 6) hx hb hts inlX4 hown hK hP 0 rfl rfl 2 (by decide) (hts (.fieldLink RX4 19 "SquarePlanes$Stations" "ys" "[I") mw_2_15) (fun _ h9 => h9) rfl dX4_turnOne_116 ?_
      refine lv_iload_n hx hb dX4_turnOne_119 rfl (lv_at hl 4 rfl) ?_
      refine va_iald hx hb hK hP 3 0 rfl rfl hw.1 dX4_turnOne_120 ?_
      have hw := hw.2
      refine lv_iload hx hb dX4_turnOne_121 (lv_at hl 1 rfl) ?_
      refine lv_icmp_ne (tgt := 137) hx hb dX4_turnOne_123 (by decide) (fun c15 => ?_) (fun c15 => ?_)
      · have hw := hw.2 c15
        refine lv_iconst (v := 1) hx hb dX4_turnOne_137 (by decide) ?_
        refine lv_goto (tgt := 142) hx hb dX4_turnOne_138 (by decide) ?_
        exact W.zret (v := 1) hx hb hr rfl (fun t ht hW => ⟨⟨1, (w11, w12, w13), rfl, hw, ⟨by rw [ht]; exact hP, va_K.moved hW.alike hK, hD⟩⟩, hS.F ht⟩) hS.2.2 dX4_turnOne_142
      · have hw := hw.1 c15
        refine lv_aload_n hx hb dX4_turnOne_126 rfl (lv_at hl 3 rfl) ?_
        refine va_get (D := D) (ci := 4) (v := .ref hSt_zs) (C := RX4) (T := TX4) (N := 6) hx hb hts inlX4 hown hK hP 0 rfl rfl 3 (by decide) (hts (.fieldLink RX4 22 "SquarePlanes$Stations" "zs" "[I") mw_2_16) (fun _ h9 => h9) rfl dX4_turnOne_127 ?_
        refine lv_iload_n hx hb dX4_turnOne_130 rfl (lv_at hl 4 rfl) ?_
        refine va_iald hx hb hK hP 4 0 rfl rfl hw.1 dX4_turnOne_131 ?_
        have hw := hw.2
        refine lv_iload hx hb dX4_turnOne_132 (lv_at hl 0 rfl) ?_
        refine lv_icmp_eq (tgt := 141) hx hb dX4_turnOne_134 (by decide) (fun c14 => ?_) (fun c14 => ?_)
        · have hw := hw.1 c14
          refine lv_iconst (v := 0) hx hb dX4_turnOne_141 (by decide) ?_
          exact W.zret (v := 0) hx hb hr rfl (fun t ht hW => ⟨⟨0, (w11, w12, w13), rfl, hw, ⟨by rw [ht]; exact hP, va_K.moved hW.alike hK, hD⟩⟩, hS.F ht⟩) hS.2.2 dX4_turnOne_142
        · have hw := hw.2 c14
          refine lv_iconst (v := 1) hx hb dX4_turnOne_137 (by decide) ?_
          refine lv_goto (tgt := 142) hx hb dX4_turnOne_138 (by decide) ?_
          exact W.zret (v := 1) hx hb hr rfl (fun t ht hW => ⟨⟨1, (w11, w12, w13), rfl, hw, ⟨by rw [ht]; exact hP, va_K.moved hW.alike hK, hD⟩⟩, hS.F ht⟩) hS.2.2 dX4_turnOne_142
  by_cases c4_2 : p1 = 2
  · have hw := hw.2.2.1 c4_2
    have tv : (p1).toInt = 2 := by rw [c4_2]; rfl
    refine lv_tableIn (tgt := 80) hx hb dX4_turnOne_24 (by rw [tv]; decide) (by rw [tv]; decide) (by rw [tv]; rfl) (by decide) ?_
    refine lv_aload_n hx hb dX4_turnOne_80 rfl (lv_at hl 3 rfl) ?_
    refine lv_iload_n hx hb dX4_turnOne_81 rfl (lv_at hl 4 rfl) ?_
    refine lv_iload hx hb dX4_turnOne_82 (lv_at hl 1 rfl) ?_
    refine lv_ineg hx hb dX4_turnOne_84 ?_
    refine lv_iload_n hx hb dX4_turnOne_85 rfl (lv_at hl 2 rfl) ?_
    refine lv_iload hx hb dX4_turnOne_86 (lv_at hl 0 rfl) ?_
    refine fd_v [0] [] hP hD hS hA rfl rfl rfl (by decide) (va_runV (As := [.int p0, .int (-x2), .int x1, .int x3]) (rest := []) ⟨hx, hb, hml, hown, hts⟩ (k_X4_aim l D cy hSt hSt_there hSt_xs hSt_ys hSt_zs hSt_signs hSt_weights St_there St_xs St_ys St_zs St_signs St_weights p0 (-x2) x1 x3 _ _ hw) (cwV 4 hts (gV mw_9_21 mw_9_22 mw_9_23 mw_1_14 mw_10_0) rfl rfl rfl (by decide +kernel) ⟨Nat.le_of_ble_eq_true rfl, Nat.le_of_ble_eq_true rfl⟩) (fPreV hN hK hP hD [0] rfl rfl 0 (ci := 4) rfl rfl rfl _) rfl rfl hl.1 rfl (lv_room (Nat.le_of_ble_eq_true rfl)) dX4_turnOne_88 ⟨Nat.zero_le _, Nat.zero_le _⟩) (fun u H locs hw hP hD hS => ?_)
    obtain ⟨w17, w18, w19⟩ := u
    try dsimp only at hw
    have hP : va_P D vwCl (List.flatten [wSt cy hSt hSt_there hSt_xs hSt_ys hSt_zs hSt_signs hSt_weights St_there w17 w18 w19 St_signs St_weights]) H := fl_P hP [0] rfl
    have hD : va_D A (List.flatten [wSt cy hSt hSt_there hSt_xs hSt_ys hSt_zs hSt_signs hSt_weights St_there w17 w18 w19 St_signs St_weights]) := fl_D hD [0] rfl rfl
    refine lv_goto (tgt := 105) hx hb dX4_turnOne_91 (by decide) ?_
    refine lv_aload_n hx hb dX4_turnOne_105 rfl (lv_at hl 3 rfl) ?_
    refine va_get (D := D) (ci := 4) (v := .ref hSt_xs) (C := RX4) (T := TX4) (N := 6) hx hb hts inlX4 hown hK hP 0 rfl rfl 1 (by decide) (hts (.fieldLink RX4 15 "SquarePlanes$Stations" "xs" "[I") mw_2_14) (fun _ h9 => h9) rfl dX4_turnOne_106 ?_
    refine lv_iload_n hx hb dX4_turnOne_109 rfl (lv_at hl 4 rfl) ?_
    refine va_iald hx hb hK hP 2 0 rfl rfl hw.1 dX4_turnOne_110 ?_
    have hw := hw.2
    refine lv_iload_n hx hb dX4_turnOne_111 rfl (lv_at hl 2 rfl) ?_
    refine lv_icmp_ne (tgt := 137) hx hb dX4_turnOne_112 (by decide) (fun c22 => ?_) (fun c22 => ?_)
    · have hw := hw.2 c22
      refine lv_iconst (v := 1) hx hb dX4_turnOne_137 (by decide) ?_
      refine lv_goto (tgt := 142) hx hb dX4_turnOne_138 (by decide) ?_
      exact W.zret (v := 1) hx hb hr rfl (fun t ht hW => ⟨⟨1, (w17, w18, w19), rfl, hw, ⟨by rw [ht]; exact hP, va_K.moved hW.alike hK, hD⟩⟩, hS.F ht⟩) hS.2.2 dX4_turnOne_142
    · have hw := hw.1 c22
      refine lv_aload_n hx hb dX4_turnOne_115 rfl (lv_at hl 3 rfl) ?_
      refine va_get (D := D) (ci := 4) (v := .ref hSt_ys) (C := RX4) (T := TX4) (N := 6) hx hb hts inlX4 hown hK hP 0 rfl rfl 2 (by decide) (hts (.fieldLink RX4 19 "SquarePlanes$Stations" "ys" "[I") mw_2_15) (fun _ h9 => h9) rfl dX4_turnOne_116 ?_
      refine lv_iload_n hx hb dX4_turnOne_119 rfl (lv_at hl 4 rfl) ?_
      refine va_iald hx hb hK hP 3 0 rfl rfl hw.1 dX4_turnOne_120 ?_
      have hw := hw.2
      refine lv_iload hx hb dX4_turnOne_121 (lv_at hl 1 rfl) ?_
      refine lv_icmp_ne (tgt := 137) hx hb dX4_turnOne_123 (by decide) (fun c21 => ?_) (fun c21 => ?_)
      · have hw := hw.2 c21
        refine lv_iconst (v := 1) hx hb dX4_turnOne_137 (by decide) ?_
        refine lv_goto (tgt := 142) hx hb dX4_turnOne_138 (by decide) ?_
        exact W.zret (v := 1) hx hb hr rfl (fun t ht hW => ⟨⟨1, (w17, w18, w19), rfl, hw, ⟨by rw [ht]; exact hP, va_K.moved hW.alike hK, hD⟩⟩, hS.F ht⟩) hS.2.2 dX4_turnOne_142
      · have hw := hw.1 c21
        refine lv_aload_n hx hb dX4_turnOne_126 rfl (lv_at hl 3 rfl) ?_
        refine va_get (D := D) (ci := 4) (v := .ref hSt_zs) (C := RX4) (T := TX4) (N := 6) hx hb hts inlX4 hown hK hP 0 rfl rfl 3 (by decide) (hts (.fieldLink RX4 22 "SquarePlanes$Stations" "zs" "[I") mw_2_16) (fun _ h9 => h9) rfl dX4_turnOne_127 ?_
        refine lv_iload_n hx hb dX4_turnOne_130 rfl (lv_at hl 4 rfl) ?_
        refine va_iald hx hb hK hP 4 0 rfl rfl hw.1 dX4_turnOne_131 ?_
        have hw := hw.2
        refine lv_iload hx hb dX4_turnOne_132 (lv_at hl 0 rfl) ?_
        refine lv_icmp_eq (tgt := 141) hx hb dX4_turnOne_134 (by decide) (fun c20 => ?_) (fun c20 => ?_)
        · have hw := hw.1 c20
          refine lv_iconst (v := 0) hx hb dX4_turnOne_141 (by decide) ?_
          exact W.zret (v := 0) hx hb hr rfl (fun t ht hW => ⟨⟨0, (w17, w18, w19), rfl, hw, ⟨by rw [ht]; exact hP, va_K.moved hW.alike hK, hD⟩⟩, hS.F ht⟩) hS.2.2 dX4_turnOne_142
        · have hw := hw.2 c20
          refine lv_iconst (v := 1) hx hb dX4_turnOne_137 (by decide) ?_
          refine lv_goto (tgt := 142) hx hb dX4_turnOne_138 (by decide) ?_
          exact W.zret (v := 1) hx hb hr rfl (fun t ht hW => ⟨⟨1, (w17, w18, w19), rfl, hw, ⟨by rw [ht]; exact hP, va_K.moved hW.alike hK, hD⟩⟩, hS.F ht⟩) hS.2.2 dX4_turnOne_142
  have hw := hw.2.2.2 c4_0 c4_1 c4_2
  refine lv_tableOut (tgt := 94) hx hb dX4_turnOne_24 (by have t0 := lv_neT (a := 0) c4_0 rfl; have t1 := lv_neT (a := 1) c4_1 rfl; have t2 := lv_neT (a := 2) c4_2 rfl; omega) (by decide) ?_
  refine lv_aload_n hx hb dX4_turnOne_94 rfl (lv_at hl 3 rfl) ?_
  refine lv_iload_n hx hb dX4_turnOne_95 rfl (lv_at hl 4 rfl) ?_
  refine lv_iload_n hx hb dX4_turnOne_96 rfl (lv_at hl 2 rfl) ?_
  refine lv_iload hx hb dX4_turnOne_97 (lv_at hl 1 rfl) ?_
  refine lv_iload hx hb dX4_turnOne_99 (lv_at hl 0 rfl) ?_
  refine lv_ineg hx hb dX4_turnOne_101 ?_
  refine fd_v [0] [] hP hD hS hA rfl rfl rfl (by decide) (va_runV (As := [.int p0, .int x1, .int x2, .int (-x3)]) (rest := []) ⟨hx, hb, hml, hown, hts⟩ (k_X4_aim l D cy hSt hSt_there hSt_xs hSt_ys hSt_zs hSt_signs hSt_weights St_there St_xs St_ys St_zs St_signs St_weights p0 x1 x2 (-x3) _ _ hw) (cwV 4 hts (gV mw_9_21 mw_9_22 mw_9_23 mw_1_14 mw_10_0) rfl rfl rfl (by decide +kernel) ⟨Nat.le_of_ble_eq_true rfl, Nat.le_of_ble_eq_true rfl⟩) (fPreV hN hK hP hD [0] rfl rfl 0 (ci := 4) rfl rfl rfl _) rfl rfl hl.1 rfl (lv_room (Nat.le_of_ble_eq_true rfl)) dX4_turnOne_102 ⟨Nat.zero_le _, Nat.zero_le _⟩) (fun u H locs hw hP hD hS => ?_)
  obtain ⟨w23, w24, w25⟩ := u
  try dsimp only at hw
  have hP : va_P D vwCl (List.flatten [wSt cy hSt hSt_there hSt_xs hSt_ys hSt_zs hSt_signs hSt_weights St_there w23 w24 w25 St_signs St_weights]) H := fl_P hP [0] rfl
  have hD : va_D A (List.flatten [wSt cy hSt hSt_there hSt_xs hSt_ys hSt_zs hSt_signs hSt_weights St_there w23 w24 w25 St_signs St_weights]) := fl_D hD [0] rfl rfl
  refine lv_aload_n hx hb dX4_turnOne_105 rfl (lv_at hl 3 rfl) ?_
  refine va_get (D := D) (ci := 4) (v := .ref hSt_xs) (C := RX4) (T := TX4) (N := 6) hx hb hts inlX4 hown hK hP 0 rfl rfl 1 (by decide) (hts (.fieldLink RX4 15 "SquarePlanes$Stations" "xs" "[I") mw_2_14) (fun _ h9 => h9) rfl dX4_turnOne_106 ?_
  refine lv_iload_n hx hb dX4_turnOne_109 rfl (lv_at hl 4 rfl) ?_
  refine va_iald hx hb hK hP 2 0 rfl rfl hw.1 dX4_turnOne_110 ?_
  have hw := hw.2
  refine lv_iload_n hx hb dX4_turnOne_111 rfl (lv_at hl 2 rfl) ?_
  refine lv_icmp_ne (tgt := 137) hx hb dX4_turnOne_112 (by decide) (fun c28 => ?_) (fun c28 => ?_)
  · have hw := hw.2 c28
    refine lv_iconst (v := 1) hx hb dX4_turnOne_137 (by decide) ?_
    refine lv_goto (tgt := 142) hx hb dX4_turnOne_138 (by decide) ?_
    exact W.zret (v := 1) hx hb hr rfl (fun t ht hW => ⟨⟨1, (w23, w24, w25), rfl, hw, ⟨by rw [ht]; exact hP, va_K.moved hW.alike hK, hD⟩⟩, hS.F ht⟩) hS.2.2 dX4_turnOne_142
  · have hw := hw.1 c28
    refine lv_aload_n hx hb dX4_turnOne_115 rfl (lv_at hl 3 rfl) ?_
    refine va_get (D := D) (ci := 4) (v := .ref hSt_ys) (C := RX4) (T := TX4) (N := 6) hx hb hts inlX4 hown hK hP 0 rfl rfl 2 (by decide) (hts (.fieldLink RX4 19 "SquarePlanes$Stations" "ys" "[I") mw_2_15) (fun _ h9 => h9) rfl dX4_turnOne_116 ?_
    refine lv_iload_n hx hb dX4_turnOne_119 rfl (lv_at hl 4 rfl) ?_
    refine va_iald hx hb hK hP 3 0 rfl rfl hw.1 dX4_turnOne_120 ?_
    have hw := hw.2
    refine lv_iload hx hb dX4_turnOne_121 (lv_at hl 1 rfl) ?_
    refine lv_icmp_ne (tgt := 137) hx hb dX4_turnOne_123 (by decide) (fun c27 => ?_) (fun c27 => ?_)
    · have hw := hw.2 c27
      refine lv_iconst (v := 1) hx hb dX4_turnOne_137 (by decide) ?_
      refine lv_goto (tgt := 142) hx hb dX4_turnOne_138 (by decide) ?_
      exact W.zret (v := 1) hx hb hr rfl (fun t ht hW => ⟨⟨1, (w23, w24, w25), rfl, hw, ⟨by rw [ht]; exact hP, va_K.moved hW.alike hK, hD⟩⟩, hS.F ht⟩) hS.2.2 dX4_turnOne_142
    · have hw := hw.1 c27
      refine lv_aload_n hx hb dX4_turnOne_126 rfl (lv_at hl 3 rfl) ?_
      refine va_get (D := D) (ci := 4) (v := .ref hSt_zs) (C := RX4) (T := TX4) (N := 6) hx hb hts inlX4 hown hK hP 0 rfl rfl 3 (by decide) (hts (.fieldLink RX4 22 "SquarePlanes$Stations" "zs" "[I") mw_2_16) (fun _ h9 => h9) rfl dX4_turnOne_127 ?_
      refine lv_iload_n hx hb dX4_turnOne_130 rfl (lv_at hl 4 rfl) ?_
      refine va_iald hx hb hK hP 4 0 rfl rfl hw.1 dX4_turnOne_131 ?_
      have hw := hw.2
      refine lv_iload hx hb dX4_turnOne_132 (lv_at hl 0 rfl) ?_
      refine lv_icmp_eq (tgt := 141) hx hb dX4_turnOne_134 (by decide) (fun c26 => ?_) (fun c26 => ?_)
      · have hw := hw.1 c26
        refine lv_iconst (v := 0) hx hb dX4_turnOne_141 (by decide) ?_
        exact W.zret (v := 0) hx hb hr rfl (fun t ht hW => ⟨⟨0, (w23, w24, w25), rfl, hw, ⟨by rw [ht]; exact hP, va_K.moved hW.alike hK, hD⟩⟩, hS.F ht⟩) hS.2.2 dX4_turnOne_142
      · have hw := hw.2 c26
        refine lv_iconst (v := 1) hx hb dX4_turnOne_137 (by decide) ?_
        refine lv_goto (tgt := 142) hx hb dX4_turnOne_138 (by decide) ?_
        exact W.zret (v := 1) hx hb hr rfl (fun t ht hW => ⟨⟨1, (w23, w24, w25), rfl, hw, ⟨by rw [ht]; exact hP, va_K.moved hW.alike hK, hD⟩⟩, hS.F ht⟩) hS.2.2 dX4_turnOne_142
set_option maxHeartbeats 4000000 in
set_option maxRecDepth 100000 in
theorem k_X5_sign (l : Launch) (D : va_G) (cy : Nat → ClassId) (hSP hSP_rankings hSt hPo hRa hSt_there hSt_xs hSt_ys hSt_zs hSt_signs hSt_weights : Nat) (SP_rankings : Nat → Option Nat) (SP_sizeNow : Int32) (SP_extraNow : Int32) (SP_version : Int32) (St_there : Nat → Int32) (St_xs : Nat → Int32) (St_ys : Nat → Int32) (St_zs : Nat → Int32) (St_signs : Nat → Int32) (St_weights : Nat → Int32) (p0 : Int32) (p1 : Int32) (sz : Nat) (Q : Int32 → Int32 → (Nat → Int32) → Prop) (hw : wp_X5_sign p0 p1 SP_version St_there St_signs Q) : Met l yX5_sign (wA yX5_sign cX5_sign 4 (some .int)) { frames := 1, cells := 0, slots := 0, locals := 21 } (kPc [.ref hSP, .int p0, .int p1] D cy (List.flatten [wSP cy hSP hSP_rankings hSt hPo hRa SP_rankings SP_sizeNow SP_extraNow SP_version, wSt cy hSt hSt_there hSt_xs hSt_ys hSt_zs hSt_signs hSt_weights St_there St_xs St_ys St_zs St_signs St_weights]) sz) (va_Qi (fun (r : Int32) (u : Int32 × (Nat → Int32)) => Q r u.1 u.2) (fun u t => kB D cy (va_A (List.flatten [wSP cy hSP hSP_rankings hSt hPo hRa SP_rankings SP_sizeNow SP_extraNow SP_version, wSt cy hSt hSt_there hSt_xs hSt_ys hSt_zs hSt_signs hSt_weights St_there St_xs St_ys St_zs St_signs St_weights]) sz) (List.flatten [wSP cy hSP hSP_rankings hSt hPo hRa SP_rankings SP_sizeNow SP_extraNow u.1, wSt cy hSt hSt_there hSt_xs hSt_ys hSt_zs hSt_signs hSt_weights St_there St_xs St_ys St_zs u.2 St_weights]) t) (va_A (List.flatten [wSP cy hSP hSP_rankings hSt hPo hRa SP_rankings SP_sizeNow SP_extraNow SP_version, wSt cy hSt hSt_there hSt_xs hSt_ys hSt_zs hSt_signs hSt_weights St_there St_xs St_ys St_zs St_signs St_weights]) sz)) 0 0 (va_A (List.flatten [wSP cy hSP hSP_rankings hSt hPo hRa SP_rankings SP_sizeNow SP_extraNow SP_version, wSt cy hSt hSt_there hSt_xs hSt_ys hSt_zs hSt_signs hSt_weights St_there St_xs St_ys St_zs St_signs St_weights]) sz) := by
  refine Met.ofW (cc := cX5_sign) (maxL := 4) (ret := (some .int)) (by decide) rfl ?_
  intro p e s m args below meth c s₁ B hml hv
  obtain ⟨rfl, hsz, hN, hP, hK, hD0⟩ := hv
  have hx := B.exec
  have hb := B.bytes
  have hr := B.returns
  have hts0 := atoms_spec (ws := wA yX5_sign cX5_sign 4 (some .int)) B.pre
  have hts := fun w (h : w ∈ wsL_law) => hts0 w (List.mem_cons_of_mem _ h)
  have hown : s.vm.findClass RX5 = some m.cls := findClass_of_methodNamed B.named
  have hlocks := B.notSynchronized
  subst hsz
  have hD := hD0.self (sz := s.heap.size)
  generalize hAe : va_A (List.flatten [wSP cy hSP hSP_rankings hSt hPo hRa SP_rankings SP_sizeNow SP_extraNow SP_version, wSt cy hSt hSt_there hSt_xs hSt_ys hSt_zs hSt_signs hSt_weights St_there St_xs St_ys St_zs St_signs St_weights]) s.heap.size = A at hD ⊢
  have hA : ∀ q : Nat, s.heap.size ≤ q → A q := fun q h => by rw [← hAe]; exact Or.inr h
  have hS : va_S A s.heap s.heap [] := va_S.rf
  have hP : va_P D vwCl (List.flatten [wSP cy hSP hSP_rankings hSt hPo hRa SP_rankings SP_sizeNow SP_extraNow SP_version, wSt cy hSt hSt_there hSt_xs hSt_ys hSt_zs hSt_signs hSt_weights St_there St_xs St_ys St_zs St_signs St_weights]) s.heap := hP
  have hl := lv_entry ([.ref hSP, .int p0, .int p1]) (n := 4) (Nat.le_of_ble_eq_true rfl)
  rw [lg_entry_eq]
  generalize (lg_sl ([.ref hSP, .int p0, .int p1]) ++ List.replicate (4 - (lg_sl ([.ref hSP, .int p0, .int p1])).length) Slot.unset).toArray = ls at hl ⊢
  have hl : lv_has ls 4 [(0, .ref hSP), (1, .int p0), (2, .int p1)] := hl
  unfold wp_X5_sign at hw
  refine lv_aload_n hx hb dX5_sign_0 rfl (lv_at hl 0 rfl) ?_
  refine va_get (D := D) (ci := 5) (v := .ref hSt) (C := RX5) (T := TX5) (N := 7) hx hb hts inlX5 hown hK hP 0 rfl rfl 0 (by decide) (hts (.fieldLink RX5 14 "SquarePlanes" "stations" "LSquarePlanes$Stations;") mw_1_15) (fun _ h9 => h9) rfl dX5_sign_1 ?_
  refine lv_iload_n hx hb dX5_sign_4 rfl (lv_at hl 1 rfl) ?_
  refine kc_i (va_runV (As := [.int p0]) (rest := []) ⟨hx, hb, hml, hown, hts⟩ (k_X4_has l D cy hSt hSt_there hSt_xs hSt_ys hSt_zs hSt_signs hSt_weights St_there St_xs St_ys St_zs St_signs St_weights p0 _ _ hw) (cwV 1 hts (gV mw_10_16 mw_10_17 mw_10_18 mw_1_14 mw_10_19) rfl rfl rfl (by decide +kernel) ⟨Nat.le_of_ble_eq_true rfl, Nat.le_of_ble_eq_true rfl⟩) (fPreV hN hK hP hD [1] rfl rfl 2 (ci := 4) rfl rfl rfl _) rfl rfl hl.1 rfl (lv_room (Nat.le_of_ble_eq_true rfl)) dX5_sign_5 ⟨Nat.zero_le _, Nat.zero_le _⟩) (fun r1 hw => ?_)
  refine lv_if_ne (tgt := 13) hx hb dX5_sign_8 (by decide) (fun c6 => ?_) (fun c6 => ?_)
  · have hw := hw.2 c6
    refine lv_iload_n hx hb dX5_sign_13 rfl (lv_at hl 2 rfl) ?_
    refine lv_iconst (v := (-1)) hx hb dX5_sign_14 (by decide) ?_
    refine lv_icmp_lt (tgt := 23) hx hb dX5_sign_15 (by decide) (fun c5 => ?_) (fun c5 => ?_)
    · have hw := hw.1 c5
      refine lv_bipush (v := (-2)) hx hb dX5_sign_23 (by decide) ?_
      exact W.iret (v := (-2)) hx hb hr (fun t ht hW => ⟨⟨(-2), (SP_version, St_signs), rfl, hw, ⟨by rw [ht]; exact hP, va_K.moved hW.alike hK, hD⟩⟩, hS.F ht⟩) hS.2.2 dX5_sign_25
    · have hw := hw.2 c5
      refine lv_iload_n hx hb dX5_sign_18 rfl (lv_at hl 2 rfl) ?_
      refine lv_iconst (v := 1) hx hb dX5_sign_19 (by decide) ?_
      refine lv_icmp_le (tgt := 26) hx hb dX5_sign_20 (by decide) (fun c4 => ?_) (fun c4 => ?_)
      · have hw := hw.1 c4
        refine lv_aload_n hx hb dX5_sign_26 rfl (lv_at hl 0 rfl) ?_
        refine va_get (D := D) (ci := 5) (v := .ref hSt) (C := RX5) (T := TX5) (N := 7) hx hb hts inlX5 hown hK hP 0 rfl rfl 0 (by decide) (hts (.fieldLink RX5 14 "SquarePlanes" "stations" "LSquarePlanes$Stations;") mw_1_15) (fun _ h9 => h9) rfl dX5_sign_27 ?_
        refine va_get (D := D) (ci := 4) (v := .ref hSt_signs) (C := RX4) (T := TX4) (N := 6) hx hb hts inlX4 hown hK hP 2 rfl rfl 4 (by decide) (hts (.fieldLink RX5 73 "SquarePlanes$Stations" "signs" "[I") mw_10_15) (fun _ h9 => h9) rfl dX5_sign_30 ?_
        refine lv_iload_n hx hb dX5_sign_33 rfl (lv_at hl 1 rfl) ?_
        refine va_iald hx hb hK hP 7 0 rfl rfl hw.1 dX5_sign_34 ?_
        have hw := hw.2
        refine lv_topi (fun x2 ex2 => ?_)
        have hw := hw x2 ex2
        refine lv_istore_n (lv' := [(3, .int x2), (0, .ref hSP), (1, .int p0), (2, .int p1)]) hx hb dX5_sign_35 rfl hl (by decide) rfl (fun ls hl => ?_)
        refine lv_aload_n hx hb dX5_sign_36 rfl (lv_at hl 1 rfl) ?_
        refine va_get (D := D) (ci := 5) (v := .ref hSt) (C := RX5) (T := TX5) (N := 7) hx hb hts inlX5 hown hK hP 0 rfl rfl 0 (by decide) (hts (.fieldLink RX5 14 "SquarePlanes" "stations" "LSquarePlanes$Stations;") mw_1_15) (fun _ h9 => h9) rfl dX5_sign_37 ?_
        refine va_get (D := D) (ci := 4) (v := .ref hSt_signs) (C := RX4) (T := TX4) (N := 6) hx hb hts inlX4 hown hK hP 2 rfl rfl 4 (by decide) (hts (.fieldLink RX5 73 "SquarePlanes$Stations" "signs" "[I") mw_10_15) (fun _ h9 => h9) rfl dX5_sign_40 ?_
        refine lv_iload_n hx hb dX5_sign_43 rfl (lv_at hl 2 rfl) ?_
        refine lv_iload_n hx hb dX5_sign_44 rfl (lv_at hl 3 rfl) ?_
        refine va_iast hx hb hK hP hD hS 7 0 rfl rfl hw.1 dX5_sign_45 (fun H locs hP hD hS => ?_)
        have hw := hw.2
        have hP : va_P D vwCl (List.flatten [wSP cy hSP hSP_rankings hSt hPo hRa SP_rankings SP_sizeNow SP_extraNow SP_version, wSt cy hSt hSt_there hSt_xs hSt_ys hSt_zs hSt_signs hSt_weights St_there St_xs St_ys St_zs (upd St_signs p0.toNatClampNeg p1) St_weights]) H := hP
        have hD : va_D A (List.flatten [wSP cy hSP hSP_rankings hSt hPo hRa SP_rankings SP_sizeNow SP_extraNow SP_version, wSt cy hSt hSt_there hSt_xs hSt_ys hSt_zs hSt_signs hSt_weights St_there St_xs St_ys St_zs (upd St_signs p0.toNatClampNeg p1) St_weights]) := hD
        refine lv_aload_n hx hb dX5_sign_46 rfl (lv_at hl 1 rfl) ?_
        refine lv_dup hx hb dX5_sign_47 rfl ?_
        refine va_get (D := D) (ci := 5) (v := .int SP_version) (C := RX5) (T := TX5) (N := 7) hx hb hts inlX5 hown hK hP 0 rfl rfl 6 (by decide) (hts (.fieldLink RX5 54 "SquarePlanes" "version" "I") mw_2_7) (fun _ h9 => h9) rfl dX5_sign_48 ?_
        refine lv_iconst (v := 1) hx hb dX5_sign_51 (by decide) ?_
        refine lv_iadd hx hb dX5_sign_52 ?_
        refine lv_topi (fun x3 ex3 => ?_)
        have hw := hw x3 ex3
        refine va_put (D := D) (ci := 5) (v := .int x3) (ty := tyX5 6) (C := RX5) (T := TX5) (N := 7) hx hb hts inlX5 tyX5 tyX5_ok nmX5 hown hK hP hD hS 0 rfl rfl 6 (by decide) (hts (.fieldLink RX5 54 "SquarePlanes" "version" "I") mw_2_7) (fun _ h9 => h9) rfl (tyX5_ok 6 (by decide)) rfl rfl (Nat.le_of_ble_eq_true rfl) dX5_sign_53 (fun H locs hP hD hS => ?_)
        have hP : va_P D vwCl (List.flatten [wSP cy hSP hSP_rankings hSt hPo hRa SP_rankings SP_sizeNow SP_extraNow x3, wSt cy hSt hSt_there hSt_xs hSt_ys hSt_zs hSt_signs hSt_weights St_there St_xs St_ys St_zs (upd St_signs p0.toNatClampNeg p1) St_weights]) H := hP
        have hD : va_D A (List.flatten [wSP cy hSP hSP_rankings hSt hPo hRa SP_rankings SP_sizeNow SP_extraNow x3, wSt cy hSt hSt_there hSt_xs hSt_ys hSt_zs hSt_signs hSt_weights St_there St_xs St_ys St_zs (upd St_signs p0.toNatClampNeg p1) St_weights]) := hD
        refine lv_iload_n hx hb dX5_sign_56 rfl (lv_at hl 0 rfl) ?_
        refine lv_iconst (v := 1) hx hb dX5_sign_57 (by decide) ?_
        refine lv_iadd hx hb dX5_sign_58 ?_
        exact W.iret (v := x2 + 1) hx hb hr (fun t ht hW => ⟨⟨x2 + 1, (x3, upd St_signs p0.toNatClampNeg p1), rfl, hw, ⟨by rw [ht]; exact hP, va_K.moved hW.alike hK, hD⟩⟩, hS.F ht⟩) hS.2.2 dX5_sign_59
      · have hw := hw.2 c4
        refine lv_bipush (v := (-2)) hx hb dX5_sign_23 (by decide) ?_
        exact W.iret (v := (-2)) hx hb hr (fun t ht hW => ⟨⟨(-2), (SP_version, St_signs), rfl, hw, ⟨by rw [ht]; exact hP, va_K.moved hW.alike hK, hD⟩⟩, hS.F ht⟩) hS.2.2 dX5_sign_25
  · have hw := hw.1 c6
    refine lv_iconst (v := (-1)) hx hb dX5_sign_11 (by decide) ?_
    exact W.iret (v := (-1)) hx hb hr (fun t ht hW => ⟨⟨(-1), (SP_version, St_signs), rfl, hw, ⟨by rw [ht]; exact hP, va_K.moved hW.alike hK, hD⟩⟩, hS.F ht⟩) hS.2.2 dX5_sign_12
set_option maxHeartbeats 4000000 in
set_option maxRecDepth 100000 in
theorem k_X5_weigh (l : Launch) (D : va_G) (cy : Nat → ClassId) (hSP hSP_rankings hSt hPo hRa hSt_there hSt_xs hSt_ys hSt_zs hSt_signs hSt_weights : Nat) (SP_rankings : Nat → Option Nat) (SP_sizeNow : Int32) (SP_extraNow : Int32) (SP_version : Int32) (St_there : Nat → Int32) (St_xs : Nat → Int32) (St_ys : Nat → Int32) (St_zs : Nat → Int32) (St_signs : Nat → Int32) (St_weights : Nat → Int32) (p0 : Int32) (p1 : Int32) (sz : Nat) (Q : Int32 → Int32 → (Nat → Int32) → Prop) (hw : wp_X5_weigh p0 p1 SP_version St_there St_weights Q) : Met l yX5_weigh (wA yX5_weigh cX5_weigh 4 (some .int)) { frames := 1, cells := 0, slots := 0, locals := 21 } (kPc [.ref hSP, .int p0, .int p1] D cy (List.flatten [wSP cy hSP hSP_rankings hSt hPo hRa SP_rankings SP_sizeNow SP_extraNow SP_version, wSt cy hSt hSt_there hSt_xs hSt_ys hSt_zs hSt_signs hSt_weights St_there St_xs St_ys St_zs St_signs St_weights]) sz) (va_Qi (fun (r : Int32) (u : Int32 × (Nat → Int32)) => Q r u.1 u.2) (fun u t => kB D cy (va_A (List.flatten [wSP cy hSP hSP_rankings hSt hPo hRa SP_rankings SP_sizeNow SP_extraNow SP_version, wSt cy hSt hSt_there hSt_xs hSt_ys hSt_zs hSt_signs hSt_weights St_there St_xs St_ys St_zs St_signs St_weights]) sz) (List.flatten [wSP cy hSP hSP_rankings hSt hPo hRa SP_rankings SP_sizeNow SP_extraNow u.1, wSt cy hSt hSt_there hSt_xs hSt_ys hSt_zs hSt_signs hSt_weights St_there St_xs St_ys St_zs St_signs u.2]) t) (va_A (List.flatten [wSP cy hSP hSP_rankings hSt hPo hRa SP_rankings SP_sizeNow SP_extraNow SP_version, wSt cy hSt hSt_there hSt_xs hSt_ys hSt_zs hSt_signs hSt_weights St_there St_xs St_ys St_zs St_signs St_weights]) sz)) 0 0 (va_A (List.flatten [wSP cy hSP hSP_rankings hSt hPo hRa SP_rankings SP_sizeNow SP_extraNow SP_version, wSt cy hSt hSt_there hSt_xs hSt_ys hSt_zs hSt_signs hSt_weights St_there St_xs St_ys St_zs St_signs St_weights]) sz) := by
  refine Met.ofW (cc := cX5_weigh) (maxL := 4) (ret := (some .int)) (by decide) rfl ?_
  intro p e s m args below meth c s₁ B hml hv
  obtain ⟨rfl, hsz, hN, hP, hK, hD0⟩ := hv
  have hx := B.exec
  have hb := B.bytes
  have hr := B.returns
  have hts0 := atoms_spec (ws := wA yX5_weigh cX5_weigh 4 (some .int)) B.pre
  have hts := fun w (h : w ∈ wsL_law) => hts0 w (List.mem_cons_of_mem _ h)
  have hown : s.vm.findClass RX5 = some m.cls := findClass_of_methodNamed B.named
  have hlocks := B.notSynchronized
  subst hsz
  have hD := hD0.self (sz := s.heap.size)
  generalize hAe : va_A (List.flatten [wSP cy hSP hSP_rankings hSt hPo hRa SP_rankings SP_sizeNow SP_extraNow SP_version, wSt cy hSt hSt_there hSt_xs hSt_ys hSt_zs hSt_signs hSt_weights St_there St_xs St_ys St_zs St_signs St_weights]) s.heap.size = A at hD ⊢
  have hA : ∀ q : Nat, s.heap.size ≤ q → A q := fun q h => by rw [← hAe]; exact Or.inr h
  have hS : va_S A s.heap s.heap [] := va_S.rf
  have hP : va_P D vwCl (List.flatten [wSP cy hSP hSP_rankings hSt hPo hRa SP_rankings SP_sizeNow SP_extraNow SP_version, wSt cy hSt hSt_there hSt_xs hSt_ys hSt_zs hSt_signs hSt_weights St_there St_xs St_ys St_zs St_signs St_weights]) s.heap := hP
  have hl := lv_entry ([.ref hSP, .int p0, .int p1]) (n := 4) (Nat.le_of_ble_eq_true rfl)
  rw [lg_entry_eq]
  generalize (lg_sl ([.ref hSP, .int p0, .int p1]) ++ List.replicate (4 - (lg_sl ([.ref hSP, .int p0, .int p1])).length) Slot.unset).toArray = ls at hl ⊢
  have hl : lv_has ls 4 [(0, .ref hSP), (1, .int p0), (2, .int p1)] := hl
  unfold wp_X5_weigh at hw
  refine lv_aload_n hx hb dX5_weigh_0 rfl (lv_at hl 0 rfl) ?_
  refine va_get (D := D) (ci := 5) (v := .ref hSt) (C := RX5) (T := TX5) (N := 7) hx hb hts inlX5 hown hK hP 0 rfl rfl 0 (by decide) (hts (.fieldLink RX5 14 "SquarePlanes" "stations" "LSquarePlanes$Stations;") mw_1_15) (fun _ h9 => h9) rfl dX5_weigh_1 ?_
  refine lv_iload_n hx hb dX5_weigh_4 rfl (lv_at hl 1 rfl) ?_
  refine kc_i (va_runV (As := [.int p0]) (rest := []) ⟨hx, hb, hml, hown, hts⟩ (k_X4_has l D cy hSt hSt_there hSt_xs hSt_ys hSt_zs hSt_signs hSt_weights St_there St_xs St_ys St_zs St_signs St_weights p0 _ _ hw) (cwV 1 hts (gV mw_10_16 mw_10_17 mw_10_18 mw_1_14 mw_10_19) rfl rfl rfl (by decide +kernel) ⟨Nat.le_of_ble_eq_true rfl, Nat.le_of_ble_eq_true rfl⟩) (fPreV hN hK hP hD [1] rfl rfl 2 (ci := 4) rfl rfl rfl _) rfl rfl hl.1 rfl (lv_room (Nat.le_of_ble_eq_true rfl)) dX5_weigh_5 ⟨Nat.zero_le _, Nat.zero_le _⟩) (fun r1 hw => ?_)
  refine lv_if_ne (tgt := 13) hx hb dX5_weigh_8 (by decide) (fun c6 => ?_) (fun c6 => ?_)
  · have hw := hw.2 c6
    refine lv_iload_n hx hb dX5_weigh_13 rfl (lv_at hl 2 rfl) ?_
    refine lv_iconst (v := 1) hx hb dX5_weigh_14 (by decide) ?_
    refine lv_icmp_lt (tgt := 23) hx hb dX5_weigh_15 (by decide) (fun c5 => ?_) (fun c5 => ?_)
    · have hw := hw.1 c5
      refine lv_bipush (v := (-2)) hx hb dX5_weigh_23 (by decide) ?_
      exact W.iret (v := (-2)) hx hb hr (fun t ht hW => ⟨⟨(-2), (SP_version, St_weights), rfl, hw, ⟨by rw [ht]; exact hP, va_K.moved hW.alike hK, hD⟩⟩, hS.F ht⟩) hS.2.2 dX5_weigh_25
    · have hw := hw.2 c5
      refine lv_iload_n hx hb dX5_weigh_18 rfl (lv_at hl 2 rfl) ?_
      refine lv_iconst (v := 4) hx hb dX5_weigh_19 (by decide) ?_
      refine lv_icmp_le (tgt := 26) hx hb dX5_weigh_20 (by decide) (fun c4 => ?_) (fun c4 => ?_)
      · have hw := hw.1 c4
        refine lv_aload_n hx hb dX5_weigh_26 rfl (lv_at hl 0 rfl) ?_
        refine va_get (D := D) (ci := 5) (v := .ref hSt) (C := RX5) (T := TX5) (N := 7) hx hb hts inlX5 hown hK hP 0 rfl rfl 0 (by decide) (hts (.fieldLink RX5 14 "SquarePlanes" "stations" "LSquarePlanes$Stations;") mw_1_15) (fun _ h9 => h9) rfl dX5_weigh_27 ?_
        refine va_get (D := D) (ci := 4) (v := .ref hSt_weights) (C := RX4) (T := TX4) (N := 6) hx hb hts inlX4 hown hK hP 2 rfl rfl 5 (by decide) (hts (.fieldLink RX5 76 "SquarePlanes$Stations" "weights" "[I") mw_11_8) (fun _ h9 => h9) rfl dX5_weigh_30 ?_
        refine lv_iload_n hx hb dX5_weigh_33 rfl (lv_at hl 1 rfl) ?_
        refine va_iald hx hb hK hP 8 0 rfl rfl hw.1 dX5_weigh_34 ?_
        have hw := hw.2
        refine lv_topi (fun x2 ex2 => ?_)
        have hw := hw x2 ex2
        refine lv_istore_n (lv' := [(3, .int x2), (0, .ref hSP), (1, .int p0), (2, .int p1)]) hx hb dX5_weigh_35 rfl hl (by decide) rfl (fun ls hl => ?_)
        refine lv_aload_n hx hb dX5_weigh_36 rfl (lv_at hl 1 rfl) ?_
        refine va_get (D := D) (ci := 5) (v := .ref hSt) (C := RX5) (T := TX5) (N := 7) hx hb hts inlX5 hown hK hP 0 rfl rfl 0 (by decide) (hts (.fieldLink RX5 14 "SquarePlanes" "stations" "LSquarePlanes$Stations;") mw_1_15) (fun _ h9 => h9) rfl dX5_weigh_37 ?_
        refine va_get (D := D) (ci := 4) (v := .ref hSt_weights) (C := RX4) (T := TX4) (N := 6) hx hb hts inlX4 hown hK hP 2 rfl rfl 5 (by decide) (hts (.fieldLink RX5 76 "SquarePlanes$Stations" "weights" "[I") mw_11_8) (fun _ h9 => h9) rfl dX5_weigh_40 ?_
        refine lv_iload_n hx hb dX5_weigh_43 rfl (lv_at hl 2 rfl) ?_
        refine lv_iload_n hx hb dX5_weigh_44 rfl (lv_at hl 3 rfl) ?_
        refine va_iast hx hb hK hP hD hS 8 0 rfl rfl hw.1 dX5_weigh_45 (fun H locs hP hD hS => ?_)
        have hw := hw.2
        have hP : va_P D vwCl (List.flatten [wSP cy hSP hSP_rankings hSt hPo hRa SP_rankings SP_sizeNow SP_extraNow SP_version, wSt cy hSt hSt_there hSt_xs hSt_ys hSt_zs hSt_signs hSt_weights St_there St_xs St_ys St_zs St_signs (upd St_weights p0.toNatClampNeg p1)]) H := hP
        have hD : va_D A (List.flatten [wSP cy hSP hSP_rankings hSt hPo hRa SP_rankings SP_sizeNow SP_extraNow SP_version, wSt cy hSt hSt_there hSt_xs hSt_ys hSt_zs hSt_signs hSt_weights St_there St_xs St_ys St_zs St_signs (upd St_weights p0.toNatClampNeg p1)]) := hD
        refine lv_aload_n hx hb dX5_weigh_46 rfl (lv_at hl 1 rfl) ?_
        refine lv_dup hx hb dX5_weigh_47 rfl ?_
        refine va_get (D := D) (ci := 5) (v := .int SP_version) (C := RX5) (T := TX5) (N := 7) hx hb hts inlX5 hown hK hP 0 rfl rfl 6 (by decide) (hts (.fieldLink RX5 54 "SquarePlanes" "version" "I") mw_2_7) (fun _ h9 => h9) rfl dX5_weigh_48 ?_
        refine lv_iconst (v := 1) hx hb dX5_weigh_51 (by decide) ?_
        refine lv_iadd hx hb dX5_weigh_52 ?_
        refine lv_topi (fun x3 ex3 => ?_)
        have hw := hw x3 ex3
        refine va_put (D := D) (ci := 5) (v := .int x3) (ty := tyX5 6) (C := RX5) (T := TX5) (N := 7) hx hb hts inlX5 tyX5 tyX5_ok nmX5 hown hK hP hD hS 0 rfl rfl 6 (by decide) (hts (.fieldLink RX5 54 "SquarePlanes" "version" "I") mw_2_7) (fun _ h9 => h9) rfl (tyX5_ok 6 (by decide)) rfl rfl (Nat.le_of_ble_eq_true rfl) dX5_weigh_53 (fun H locs hP hD hS => ?_)
        have hP : va_P D vwCl (List.flatten [wSP cy hSP hSP_rankings hSt hPo hRa SP_rankings SP_sizeNow SP_extraNow x3, wSt cy hSt hSt_there hSt_xs hSt_ys hSt_zs hSt_signs hSt_weights St_there St_xs St_ys St_zs St_signs (upd St_weights p0.toNatClampNeg p1)]) H := hP
        have hD : va_D A (List.flatten [wSP cy hSP hSP_rankings hSt hPo hRa SP_rankings SP_sizeNow SP_extraNow x3, wSt cy hSt hSt_there hSt_xs hSt_ys hSt_zs hSt_signs hSt_weights St_there St_xs St_ys St_zs St_signs (upd St_weights p0.toNatClampNeg p1)]) := hD
        refine lv_iload_n hx hb dX5_weigh_56 rfl (lv_at hl 0 rfl) ?_
        exact W.iret (v := x2) hx hb hr (fun t ht hW => ⟨⟨x2, (x3, upd St_weights p0.toNatClampNeg p1), rfl, hw, ⟨by rw [ht]; exact hP, va_K.moved hW.alike hK, hD⟩⟩, hS.F ht⟩) hS.2.2 dX5_weigh_57
      · have hw := hw.2 c4
        refine lv_bipush (v := (-2)) hx hb dX5_weigh_23 (by decide) ?_
        exact W.iret (v := (-2)) hx hb hr (fun t ht hW => ⟨⟨(-2), (SP_version, St_weights), rfl, hw, ⟨by rw [ht]; exact hP, va_K.moved hW.alike hK, hD⟩⟩, hS.F ht⟩) hS.2.2 dX5_weigh_25
  · have hw := hw.1 c6
    refine lv_iconst (v := (-1)) hx hb dX5_weigh_11 (by decide) ?_
    exact W.iret (v := (-1)) hx hb hr (fun t ht hW => ⟨⟨(-1), (SP_version, St_weights), rfl, hw, ⟨by rw [ht]; exact hP, va_K.moved hW.alike hK, hD⟩⟩, hS.F ht⟩) hS.2.2 dX5_weigh_12
set_option maxHeartbeats 4000000 in
set_option maxRecDepth 100000 in
theorem k_X5_drop (l : Launch) (D : va_G) (cy : Nat → ClassId) (hSP hSP_rankings hSt hPo hRa hSt_there hSt_xs hSt_ys hSt_zs hSt_signs hSt_weights : Nat) (SP_rankings : Nat → Option Nat) (SP_sizeNow : Int32) (SP_extraNow : Int32) (SP_version : Int32) (St_there : Nat → Int32) (St_xs : Nat → Int32) (St_ys : Nat → Int32) (St_zs : Nat → Int32) (St_signs : Nat → Int32) (St_weights : Nat → Int32) (p0 : Int32) (sz : Nat) (Q : Int32 → Int32 → (Nat → Int32) → Prop) (hw : wp_X5_drop p0 SP_version St_there Q) : Met l yX5_drop (wA yX5_drop cX5_drop 2 (some .int)) { frames := 1, cells := 0, slots := 0, locals := 22 } (kPc [.ref hSP, .int p0] D cy (List.flatten [wSP cy hSP hSP_rankings hSt hPo hRa SP_rankings SP_sizeNow SP_extraNow SP_version, wSt cy hSt hSt_there hSt_xs hSt_ys hSt_zs hSt_signs hSt_weights St_there St_xs St_ys St_zs St_signs St_weights]) sz) (va_Qi (fun (r : Int32) (u : Int32 × (Nat → Int32)) => Q r u.1 u.2) (fun u t => kB D cy (va_A (List.flatten [wSP cy hSP hSP_rankings hSt hPo hRa SP_rankings SP_sizeNow SP_extraNow SP_version, wSt cy hSt hSt_there hSt_xs hSt_ys hSt_zs hSt_signs hSt_weights St_there St_xs St_ys St_zs St_signs St_weights]) sz) (List.flatten [wSP cy hSP hSP_rankings hSt hPo hRa SP_rankings SP_sizeNow SP_extraNow u.1, wSt cy hSt hSt_there hSt_xs hSt_ys hSt_zs hSt_signs hSt_weights u.2 St_xs St_ys St_zs St_signs St_weights]) t) (va_A (List.flatten [wSP cy hSP hSP_rankings hSt hPo hRa SP_rankings SP_sizeNow SP_extraNow SP_version, wSt cy hSt hSt_there hSt_xs hSt_ys hSt_zs hSt_signs hSt_weights St_there St_xs St_ys St_zs St_signs St_weights]) sz)) 0 0 (va_A (List.flatten [wSP cy hSP hSP_rankings hSt hPo hRa SP_rankings SP_sizeNow SP_extraNow SP_version, wSt cy hSt hSt_there hSt_xs hSt_ys hSt_zs hSt_signs hSt_weights St_there St_xs St_ys St_zs St_signs St_weights]) sz) := by
  refine Met.ofW (cc := cX5_drop) (maxL := 2) (ret := (some .int)) (by decide) rfl ?_
  intro p e s m args below meth c s₁ B hml hv
  obtain ⟨rfl, hsz, hN, hP, hK, hD0⟩ := hv
  have hx := B.exec
  have hb := B.bytes
  have hr := B.returns
  have hts0 := atoms_spec (ws := wA yX5_drop cX5_drop 2 (some .int)) B.pre
  have hts := fun w (h : w ∈ wsL_law) => hts0 w (List.mem_cons_of_mem _ h)
  have hown : s.vm.findClass RX5 = some m.cls := findClass_of_methodNamed B.named
  have hlocks := B.notSynchronized
  subst hsz
  have hD := hD0.self (sz := s.heap.size)
  generalize hAe : va_A (List.flatten [wSP cy hSP hSP_rankings hSt hPo hRa SP_rankings SP_sizeNow SP_extraNow SP_version, wSt cy hSt hSt_there hSt_xs hSt_ys hSt_zs hSt_signs hSt_weights St_there St_xs St_ys St_zs St_signs St_weights]) s.heap.size = A at hD ⊢
  have hA : ∀ q : Nat, s.heap.size ≤ q → A q := fun q h => by rw [← hAe]; exact Or.inr h
  have hS : va_S A s.heap s.heap [] := va_S.rf
  have hP : va_P D vwCl (List.flatten [wSP cy hSP hSP_rankings hSt hPo hRa SP_rankings SP_sizeNow SP_extraNow SP_version, wSt cy hSt hSt_there hSt_xs hSt_ys hSt_zs hSt_signs hSt_weights St_there St_xs St_ys St_zs St_signs St_weights]) s.heap := hP
  have hl := lv_entry ([.ref hSP, .int p0]) (n := 2) (Nat.le_of_ble_eq_true rfl)
  rw [lg_entry_eq]
  generalize (lg_sl ([.ref hSP, .int p0]) ++ List.replicate (2 - (lg_sl ([.ref hSP, .int p0])).length) Slot.unset).toArray = ls at hl ⊢
  have hl : lv_has ls 2 [(0, .ref hSP), (1, .int p0)] := hl
  unfold wp_X5_drop at hw
  refine lv_aload_n hx hb dX5_drop_0 rfl (lv_at hl 0 rfl) ?_
  refine va_get (D := D) (ci := 5) (v := .ref hSt) (C := RX5) (T := TX5) (N := 7) hx hb hts inlX5 hown hK hP 0 rfl rfl 0 (by decide) (hts (.fieldLink RX5 14 "SquarePlanes" "stations" "LSquarePlanes$Stations;") mw_1_15) (fun _ h9 => h9) rfl dX5_drop_1 ?_
  refine lv_iload_n hx hb dX5_drop_4 rfl (lv_at hl 1 rfl) ?_
  refine kc_i (va_runV (As := [.int p0]) (rest := []) ⟨hx, hb, hml, hown, hts⟩ (k_X4_has l D cy hSt hSt_there hSt_xs hSt_ys hSt_zs hSt_signs hSt_weights St_there St_xs St_ys St_zs St_signs St_weights p0 _ _ hw) (cwV 1 hts (gV mw_10_16 mw_10_17 mw_10_18 mw_1_14 mw_10_19) rfl rfl rfl (by decide +kernel) ⟨Nat.le_of_ble_eq_true rfl, Nat.le_of_ble_eq_true rfl⟩) (fPreV hN hK hP hD [1] rfl rfl 2 (ci := 4) rfl rfl rfl _) rfl rfl hl.1 rfl (lv_room (Nat.le_of_ble_eq_true rfl)) dX5_drop_5 ⟨Nat.zero_le _, Nat.zero_le _⟩) (fun r1 hw => ?_)
  refine lv_if_ne (tgt := 13) hx hb dX5_drop_8 (by decide) (fun c4 => ?_) (fun c4 => ?_)
  · have hw := hw.2 c4
    refine lv_aload_n hx hb dX5_drop_13 rfl (lv_at hl 0 rfl) ?_
    refine va_get (D := D) (ci := 5) (v := .ref hSt) (C := RX5) (T := TX5) (N := 7) hx hb hts inlX5 hown hK hP 0 rfl rfl 0 (by decide) (hts (.fieldLink RX5 14 "SquarePlanes" "stations" "LSquarePlanes$Stations;") mw_1_15) (fun _ h9 => h9) rfl dX5_drop_14 ?_
    refine va_get (D := D) (ci := 4) (v := .ref hSt_there) (C := RX4) (T := TX4) (N := 6) hx hb hts inlX4 hown hK hP 2 rfl rfl 0 (by decide) (hts (.fieldLink RX5 61 "SquarePlanes$Stations" "there" "[Z") mw_9_10) (fun _ h9 => h9) rfl dX5_drop_17 ?_
    refine lv_iload_n hx hb dX5_drop_20 rfl (lv_at hl 1 rfl) ?_
    refine lv_iconst (v := 0) hx hb dX5_drop_21 (by decide) ?_
    refine va_zast hx hb hK hP hD hS 3 1 rfl rfl hw.1 dX5_drop_22 (fun H locs hP hD hS => ?_)
    have hw := hw.2
    have hP : va_P D vwCl (List.flatten [wSP cy hSP hSP_rankings hSt hPo hRa SP_rankings SP_sizeNow SP_extraNow SP_version, wSt cy hSt hSt_there hSt_xs hSt_ys hSt_zs hSt_signs hSt_weights (upd St_there p0.toNatClampNeg 0) St_xs St_ys St_zs St_signs St_weights]) H := hP
    have hD : va_D A (List.flatten [wSP cy hSP hSP_rankings hSt hPo hRa SP_rankings SP_sizeNow SP_extraNow SP_version, wSt cy hSt hSt_there hSt_xs hSt_ys hSt_zs hSt_signs hSt_weights (upd St_there p0.toNatClampNeg 0) St_xs St_ys St_zs St_signs St_weights]) := hD
    refine lv_aload_n hx hb dX5_drop_23 rfl (lv_at hl 0 rfl) ?_
    refine lv_dup hx hb dX5_drop_24 rfl ?_
    refine va_get (D := D) (ci := 5) (v := .int SP_version) (C := RX5) (T := TX5) (N := 7) hx hb hts inlX5 hown hK hP 0 rfl rfl 6 (by decide) (hts (.fieldLink RX5 54 "SquarePlanes" "version" "I") mw_2_7) (fun _ h9 => h9) rfl dX5_drop_25 ?_
    refine lv_iconst (v := 1) hx hb dX5_drop_28 (by decide) ?_
    refine lv_iadd hx hb dX5_drop_29 ?_
    refine lv_topi (fun x2 ex2 => ?_)
    have hw := hw x2 ex2
    refine va_put (D := D) (ci := 5) (v := .int x2) (ty := tyX5 6) (C := RX5) (T := TX5) (N := 7) hx hb hts inlX5 tyX5 tyX5_ok nmX5 hown hK hP hD hS 0 rfl rfl 6 (by decide) (hts (.fieldLink RX5 54 "SquarePlanes" "version" "I") mw_2_7) (fun _ h9 => h9) rfl (tyX5_ok 6 (by decide)) rfl rfl (Nat.le_of_ble_eq_true rfl) dX5_drop_30 (fun H locs hP hD hS => ?_)
    have hP : va_P D vwCl (List.flatten [wSP cy hSP hSP_rankings hSt hPo hRa SP_rankings SP_sizeNow SP_extraNow x2, wSt cy hSt hSt_there hSt_xs hSt_ys hSt_zs hSt_signs hSt_weights (upd St_there p0.toNatClampNeg 0) St_xs St_ys St_zs St_signs St_weights]) H := hP
    have hD : va_D A (List.flatten [wSP cy hSP hSP_rankings hSt hPo hRa SP_rankings SP_sizeNow SP_extraNow x2, wSt cy hSt hSt_there hSt_xs hSt_ys hSt_zs hSt_signs hSt_weights (upd St_there p0.toNatClampNeg 0) St_xs St_ys St_zs St_signs St_weights]) := hD
    refine lv_aload_n hx hb dX5_drop_33 rfl (lv_at hl 0 rfl) ?_
    refine va_get (D := D) (ci := 5) (v := .ref hSt) (C := RX5) (T := TX5) (N := 7) hx hb hts inlX5 hown hK hP 0 rfl rfl 0 (by decide) (hts (.fieldLink RX5 14 "SquarePlanes" "stations" "LSquarePlanes$Stations;") mw_1_15) (fun _ h9 => h9) rfl dX5_drop_34 ?_
    refine kc_i (va_runV (As := []) (rest := []) ⟨hx, hb, hml, hown, hts⟩ (k_X4_count l D cy hSt hSt_there hSt_xs hSt_ys hSt_zs hSt_signs hSt_weights (upd St_there p0.toNatClampNeg 0) St_xs St_ys St_zs St_signs St_weights _ _ hw) (cwV 0 hts (gV mw_11_17 mw_11_18 mw_11_19 mw_1_14 mw_11_20) rfl rfl rfl (by decide +kernel) ⟨Nat.le_of_ble_eq_true rfl, Nat.le_of_ble_eq_true rfl⟩) (fPreV hN hK hP hD [1] rfl rfl 2 (ci := 4) rfl rfl rfl _) rfl rfl hl.1 rfl (lv_room (Nat.le_of_ble_eq_true rfl)) dX5_drop_37 ⟨Nat.zero_le _, Nat.zero_le _⟩) (fun r3 hw => ?_)
    exact W.iret (v := r3) hx hb hr (fun t ht hW => ⟨⟨r3, (x2, upd St_there p0.toNatClampNeg 0), rfl, hw, ⟨by rw [ht]; exact hP, va_K.moved hW.alike hK, hD⟩⟩, hS.F ht⟩) hS.2.2 dX5_drop_40
  · have hw := hw.1 c4
    refine lv_iconst (v := (-1)) hx hb dX5_drop_11 (by decide) ?_
    exact W.iret (v := (-1)) hx hb hr (fun t ht hW => ⟨⟨(-1), (SP_version, St_there), rfl, hw, ⟨by rw [ht]; exact hP, va_K.moved hW.alike hK, hD⟩⟩, hS.F ht⟩) hS.2.2 dX5_drop_12
set_option maxHeartbeats 4000000 in
set_option maxRecDepth 100000 in
theorem k_X5_pole (l : Launch) (D : va_G) (cy : Nat → ClassId) (hSP hSP_rankings hSt hPo hRa hPo_xs hPo_ys hPo_zs hPo_countUpTo : Nat) (SP_rankings : Nat → Option Nat) (SP_sizeNow : Int32) (SP_extraNow : Int32) (SP_version : Int32) (Po_xs : Nat → Int32) (Po_ys : Nat → Int32) (Po_zs : Nat → Int32) (Po_countUpTo : Nat → Int32) (Po_count : Int32) (p0 : Int32) (p1 : Int32) (sz : Nat) (Q : Int32 → Prop) (hw : wp_X5_pole p0 p1 SP_sizeNow Po_xs Po_ys Po_zs Po_countUpTo Q) : Met l yX5_pole (wA yX5_pole cX5_pole 3 (some .int)) { frames := 1, cells := 0, slots := 0, locals := 21 } (kPc [.ref hSP, .int p0, .int p1] D cy (List.flatten [wSP cy hSP hSP_rankings hSt hPo hRa SP_rankings SP_sizeNow SP_extraNow SP_version, wPo cy hPo hPo_xs hPo_ys hPo_zs hPo_countUpTo Po_xs Po_ys Po_zs Po_countUpTo Po_count]) sz) (kSi Q) 0 0 (fun _ => False) := by
  refine Met.ofW (cc := cX5_pole) (maxL := 3) (ret := (some .int)) (by decide) rfl ?_
  intro p e s m args below meth c s₁ B hml hv
  obtain ⟨rfl, hsz, hN, hP, hK, hD0⟩ := hv
  have hx := B.exec
  have hb := B.bytes
  have hr := B.returns
  have hts0 := atoms_spec (ws := wA yX5_pole cX5_pole 3 (some .int)) B.pre
  have hts := fun w (h : w ∈ wsL_law) => hts0 w (List.mem_cons_of_mem _ h)
  have hown : s.vm.findClass RX5 = some m.cls := findClass_of_methodNamed B.named
  have hlocks := B.notSynchronized
  subst hsz
  have hD := hD0
  have hl := lv_entry ([.ref hSP, .int p0, .int p1]) (n := 3) (Nat.le_of_ble_eq_true rfl)
  rw [lg_entry_eq]
  generalize (lg_sl ([.ref hSP, .int p0, .int p1]) ++ List.replicate (3 - (lg_sl ([.ref hSP, .int p0, .int p1])).length) Slot.unset).toArray = ls at hl ⊢
  have hl : lv_has ls 3 [(0, .ref hSP), (1, .int p0), (2, .int p1)] := hl
  unfold wp_X5_pole at hw
  refine lv_aload_n hx hb dX5_pole_0 rfl (lv_at hl 0 rfl) ?_
  refine lv_iload_n hx hb dX5_pole_1 rfl (lv_at hl 1 rfl) ?_
  refine kc_i (va_runV (As := [.int p0]) (rest := []) ⟨hx, hb, hml, hown, hts⟩ (k_X5_isPole l D cy hSP hSP_rankings hSt hPo hRa hPo_xs hPo_ys hPo_zs hPo_countUpTo SP_rankings SP_sizeNow SP_extraNow SP_version Po_xs Po_ys Po_zs Po_countUpTo Po_count p0 _ _ hw) (cwV 1 hts (gV mw_19_8 mw_19_9 mw_19_10 mw_1_2 mw_19_11) rfl rfl rfl (by decide +kernel) ⟨Nat.le_of_ble_eq_true rfl, Nat.le_of_ble_eq_true rfl⟩) (fPreV hN hK hP hD [0, 1] rfl rfl 0 (ci := 5) rfl rfl rfl _) rfl rfl hl.1 rfl (lv_room (Nat.le_of_ble_eq_true rfl)) dX5_pole_2 ⟨Nat.zero_le _, Nat.zero_le _⟩) (fun r1 hw => ?_)
  refine lv_if_ne (tgt := 10) hx hb dX5_pole_5 (by decide) (fun c3 => ?_) (fun c3 => ?_)
  · have hw := hw.2 c3
    refine lv_iload_n hx hb dX5_pole_10 rfl (lv_at hl 2 rfl) ?_
    by_cases c2_0 : p1 = 0
    · have hw := hw.1 c2_0
      have tv : (p1).toInt = 0 := by rw [c2_0]; rfl
      refine lv_tableIn (tgt := 36) hx hb dX5_pole_11 (by rw [tv]; decide) (by rw [tv]; decide) (by rw [tv]; rfl) (by decide) ?_
      refine lv_aload_n hx hb dX5_pole_36 rfl (lv_at hl 0 rfl) ?_
      refine va_get (D := D) (ci := 5) (v := .ref hPo) (C := RX5) (T := TX5) (N := 7) hx hb hts inlX5 hown hK hP 0 rfl rfl 1 (by decide) (hts (.fieldLink RX5 21 "SquarePlanes" "poles" "LSquarePlanes$Poles;") mw_1_19) (fun _ h9 => h9) rfl dX5_pole_37 ?_
      refine va_get (D := D) (ci := 2) (v := .ref hPo_xs) (C := RX2) (T := TX2) (N := 5) hx hb hts inlX2 hown hK hP 2 rfl rfl 0 (by decide) (hts (.fieldLink RX5 107 "SquarePlanes$Poles" "xs" "[I") mw_19_5) (fun _ h9 => h9) rfl dX5_pole_40 ?_
      refine lv_iload_n hx hb dX5_pole_43 rfl (lv_at hl 1 rfl) ?_
      refine va_iald hx hb hK hP 3 0 rfl rfl hw.1 dX5_pole_44 ?_
      have hw := hw.2
      refine lv_bipush (v := 10) hx hb dX5_pole_45 (by decide) ?_
      refine lv_iadd hx hb dX5_pole_47 ?_
      exact W.iret (v := (Po_xs p0.toNatClampNeg) + 10) hx hb hr (fun t ht hW => ⟨(Po_xs p0.toNatClampNeg) + 10, rfl, hw, ht⟩) (fun q h => by cases h) dX5_pole_48
    by_cases c2_1 : p1 = 1
    · have hw := hw.2.1 c2_1
      have tv : (p1).toInt = 1 := by rw [c2_1]; rfl
      refine lv_tableIn (tgt := 49) hx hb dX5_pole_11 (by rw [tv]; decide) (by rw [tv]; decide) (by rw [tv]; rfl) (by decide) ?_
      refine lv_aload_n hx hb dX5_pole_49 rfl (lv_at hl 0 rfl) ?_
      refine va_get (D := D) (ci := 5) (v := .ref hPo) (C := RX5) (T := TX5) (N := 7) hx hb hts inlX5 hown hK hP 0 rfl rfl 1 (by decide) (hts (.fieldLink RX5 21 "SquarePlanes" "poles" "LSquarePlanes$Poles;") mw_1_19) (fun _ h9 => h9) rfl dX5_pole_50 ?_
      refine va_get (D := D) (ci := 2) (v := .ref hPo_ys) (C := RX2) (T := TX2) (N := 5) hx hb hts inlX2 hown hK hP 2 rfl rfl 1 (by decide) (hts (.fieldLink RX5 108 "SquarePlanes$Poles" "ys" "[I") mw_19_6) (fun _ h9 => h9) rfl dX5_pole_53 ?_
      refine lv_iload_n hx hb dX5_pole_56 rfl (lv_at hl 1 rfl) ?_
      refine va_iald hx hb hK hP 4 0 rfl rfl hw.1 dX5_pole_57 ?_
      have hw := hw.2
      refine lv_bipush (v := 10) hx hb dX5_pole_58 (by decide) ?_
      refine lv_iadd hx hb dX5_pole_60 ?_
      exact W.iret (v := (Po_ys p0.toNatClampNeg) + 10) hx hb hr (fun t ht hW => ⟨(Po_ys p0.toNatClampNeg) + 10, rfl, hw, ht⟩) (fun q h => by cases h) dX5_pole_61
    by_cases c2_2 : p1 = 2
    · have hw := hw.2.2.1 c2_2
      have tv : (p1).toInt = 2 := by rw [c2_2]; rfl
      refine lv_tableIn (tgt := 62) hx hb dX5_pole_11 (by rw [tv]; decide) (by rw [tv]; decide) (by rw [tv]; rfl) (by decide) ?_
      refine lv_aload_n hx hb dX5_pole_62 rfl (lv_at hl 0 rfl) ?_
      refine va_get (D := D) (ci := 5) (v := .ref hPo) (C := RX5) (T := TX5) (N := 7) hx hb hts inlX5 hown hK hP 0 rfl rfl 1 (by decide) (hts (.fieldLink RX5 21 "SquarePlanes" "poles" "LSquarePlanes$Poles;") mw_1_19) (fun _ h9 => h9) rfl dX5_pole_63 ?_
      refine va_get (D := D) (ci := 2) (v := .ref hPo_zs) (C := RX2) (T := TX2) (N := 5) hx hb hts inlX2 hown hK hP 2 rfl rfl 2 (by decide) (hts (.fieldLink RX5 109 "SquarePlanes$Poles" "zs" "[I") mw_19_7) (fun _ h9 => h9) rfl dX5_pole_66 ?_
      refine lv_iload_n hx hb dX5_pole_69 rfl (lv_at hl 1 rfl) ?_
      refine va_iald hx hb hK hP 5 0 rfl rfl hw.1 dX5_pole_70 ?_
      have hw := hw.2
      refine lv_bipush (v := 10) hx hb dX5_pole_71 (by decide) ?_
      refine lv_iadd hx hb dX5_pole_73 ?_
      exact W.iret (v := (Po_zs p0.toNatClampNeg) + 10) hx hb hr (fun t ht hW => ⟨(Po_zs p0.toNatClampNeg) + 10, rfl, hw, ht⟩) (fun q h => by cases h) dX5_pole_74
    have hw := hw.2.2.2 c2_0 c2_1 c2_2
    refine lv_tableOut (tgt := 75) hx hb dX5_pole_11 (by have t0 := lv_neT (a := 0) c2_0 rfl; have t1 := lv_neT (a := 1) c2_1 rfl; have t2 := lv_neT (a := 2) c2_2 rfl; omega) (by decide) ?_
    refine lv_bipush (v := (-2)) hx hb dX5_pole_75 (by decide) ?_
    exact W.iret (v := (-2)) hx hb hr (fun t ht hW => ⟨(-2), rfl, hw, ht⟩) (fun q h => by cases h) dX5_pole_77
  · have hw := hw.1 c3
    refine lv_iconst (v := (-1)) hx hb dX5_pole_8 (by decide) ?_
    exact W.iret (v := (-1)) hx hb hr (fun t ht hW => ⟨(-1), rfl, hw, ht⟩) (fun q h => by cases h) dX5_pole_9
