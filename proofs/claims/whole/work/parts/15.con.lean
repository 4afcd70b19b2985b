set_option maxHeartbeats 4000000 in
set_option maxRecDepth 100000 in
theorem k_X6_sign (l : Launch) (D : va_G) (cy : Nat → ClassId) (hMo hMo_isThere hMo_stationX hMo_stationY hMo_stationZ hMo_told hMo_weight hMo_poleX hMo_poleY hMo_poleZ hMo_lesser hMo_greater hMo_misfit hMo_nodal hMo_order hMo_placeOf hMo_unlikeX hMo_unlikeY hMo_unlikeZ hMo_farUp hMo_farDown hMo_axisOf : Nat) (Mo_isThere : Nat → Int32) (Mo_stationX : Nat → Int32) (Mo_stationY : Nat → Int32) (Mo_stationZ : Nat → Int32) (Mo_told : Nat → Int32) (Mo_weight : Nat → Int32) (Mo_size : Int32) (Mo_extra : Int32) (Mo_poles : Int32) (Mo_poleX : Nat → Int32) (Mo_poleY : Nat → Int32) (Mo_poleZ : Nat → Int32) (Mo_pairs : Int32) (Mo_lesser : Nat → Int32) (Mo_greater : Nat → Int32) (Mo_isKnown : Int32) (Mo_least : Int32) (Mo_kept : Int32) (Mo_misfit : Nat → Int32) (Mo_nodal : Nat → Int32) (Mo_order : Nat → Int32) (Mo_placeOf : Nat → Int32) (Mo_axisX : Int32) (Mo_axisY : Int32) (Mo_axisZ : Int32) (Mo_axes : Int32) (Mo_unlikeX : Nat → Int32) (Mo_unlikeY : Nat → Int32) (Mo_unlikeZ : Nat → Int32) (Mo_farUp : Nat → Int64) (Mo_farDown : Nat → Int64) (Mo_axisOf : Nat → Int32) (p0 : Int32) (p1 : Int32) (sz : Nat) (Q : Int32 → (Nat → Int32) → Int32 → Prop) (hw : wp_X6_sign p0 p1 Mo_isThere Mo_told Mo_isKnown Q) : Met l yX6_sign (wA yX6_sign cX6_sign 4 (some .int)) { frames := 2, cells := 0, slots := 0, locals := 43 } (kPc [.ref hMo, .int p0, .int p1] D cy (List.flatten [wMo cy hMo hMo_isThere hMo_stationX hMo_stationY hMo_stationZ hMo_told hMo_weight hMo_poleX hMo_poleY hMo_poleZ hMo_lesser hMo_greater hMo_misfit hMo_nodal hMo_order hMo_placeOf hMo_unlikeX hMo_unlikeY hMo_unlikeZ hMo_farUp hMo_farDown hMo_axisOf Mo_isThere Mo_stationX Mo_stationY Mo_stationZ Mo_told Mo_weight Mo_size Mo_extra Mo_poles Mo_poleX Mo_poleY Mo_poleZ Mo_pairs Mo_lesser Mo_greater Mo_isKnown Mo_least Mo_kept Mo_misfit Mo_nodal Mo_order Mo_placeOf Mo_axisX Mo_axisY Mo_axisZ Mo_axes Mo_unlikeX Mo_unlikeY Mo_unlikeZ Mo_farUp Mo_farDown Mo_axisOf]) sz) (va_Qi (fun (r : Int32) (u : (Nat → Int32) × Int32) => Q r u.1 u.2) (fun u t => kB D cy (va_A (List.flatten [wMo cy hMo hMo_isThere hMo_stationX hMo_stationY hMo_stationZ hMo_told hMo_weight hMo_poleX hMo_poleY hMo_poleZ hMo_lesser hMo_greater hMo_misfit hMo_nodal hMo_order hMo_placeOf hMo_unlikeX hMo_unlikeY hMo_unlikeZ hMo_farUp hMo_farDown hMo_axisOf Mo_isThere Mo_stationX Mo_stationY Mo_stationZ Mo_told Mo_weight Mo_size Mo_extra Mo_poles Mo_poleX Mo_poleY Mo_poleZ Mo_pairs Mo_lesser Mo_greater Mo_isKnown Mo_least Mo_kept Mo_misfit Mo_nodal Mo_order Mo_placeOf Mo_axisX Mo_axisY Mo_axisZ Mo_axes Mo_unlikeX Mo_unlikeY Mo_unlikeZ Mo_farUp Mo_farDown Mo_axisOf]) sz) (List.flatten [wMo cy hMo hMo_isThere hMo_stationX hMo_stationY hMo_stationZ hMo_told hMo_weight hMo_poleX hMo_poleY hMo_poleZ hMo_lesser hMo_greater hMo_misfit hMo_nodal hMo_order hMo_placeOf hMo_unlikeX hMo_unlikeY hMo_unlikeZ hMo_farUp hMo_farDown hMo_axisOf Mo_isThere Mo_stationX Mo_stationY Mo_stationZ u.1 Mo_weight Mo_size Mo_extra Mo_poles Mo_poleX Mo_poleY Mo_poleZ Mo_pairs Mo_lesser Mo_greater u.2 Mo_least Mo_kept Mo_misfit Mo_nodal Mo_order Mo_placeOf Mo_axisX Mo_axisY Mo_axisZ Mo_axes Mo_unlikeX Mo_unlikeY Mo_unlikeZ Mo_farUp Mo_farDown Mo_axisOf]) t) (va_A (List.flatten [wMo cy hMo hMo_isThere hMo_stationX hMo_stationY hMo_stationZ hMo_told hMo_weight hMo_poleX hMo_poleY hMo_poleZ hMo_lesser hMo_greater hMo_misfit hMo_nodal hMo_order hMo_placeOf hMo_unlikeX hMo_unlikeY hMo_unlikeZ hMo_farUp hMo_farDown hMo_axisOf Mo_isThere Mo_stationX Mo_stationY Mo_stationZ Mo_told Mo_weight Mo_size Mo_extra Mo_poles Mo_poleX Mo_poleY Mo_poleZ Mo_pairs Mo_lesser Mo_greater Mo_isKnown Mo_least Mo_kept Mo_misfit Mo_nodal Mo_order Mo_placeOf Mo_axisX Mo_axisY Mo_axisZ Mo_axes Mo_unlikeX Mo_unlikeY Mo_unlikeZ Mo_farUp Mo_farDown Mo_axisOf]) sz)) 0 0 (va_A (List.flatten [wMo cy hMo hMo_isThere hMo_stationX hMo_stationY hMo_stationZ hMo_told hMo_weight hMo_poleX hMo_poleY hMo_poleZ hMo_lesser hMo_greater hMo_misfit hMo_nodal hMo_order hMo_placeOf hMo_unlikeX hMo_unlikeY hMo_unlikeZ hMo_farUp hMo_farDown hMo_axisOf Mo_isThere Mo_stationX Mo_stationY Mo_stationZ Mo_told Mo_weight Mo_size Mo_extra Mo_poles Mo_poleX Mo_poleY Mo_poleZ Mo_pairs Mo_lesser Mo_greater Mo_isKnown Mo_least Mo_kept Mo_misfit Mo_nodal Mo_order Mo_placeOf Mo_axisX Mo_axisY Mo_axisZ Mo_axes Mo_unlikeX Mo_unlikeY Mo_unlikeZ Mo_farUp Mo_farDown Mo_axisOf]) sz) := by
  refine Met.ofW (cc := cX6_sign) (maxL := 4) (ret := (some .int)) (by decide) rfl ?_
  intro p e s m args below meth c s₁ B hml hv
  obtain ⟨rfl, hsz, hN, hP, hK, hD0⟩ := hv
  have hx := B.exec
  have hb := B.bytes
  have hr := B.returns
  have hts0 := atoms_spec (ws := wA yX6_sign cX6_sign 4 (some .int)) B.pre
  have hts := fun w (h : w ∈ wsL_law) => hts0 w (List.mem_cons_of_mem _ h)
  have hown : s.vm.findClass RX6 = some m.cls := findClass_of_methodNamed B.named
  have hlocks := B.notSynchronized
  subst hsz
  have hD := hD0.self (sz := s.heap.size)
  generalize hAe : va_A (List.flatten [wMo cy hMo hMo_isThere hMo_stationX hMo_stationY hMo_stationZ hMo_told hMo_weight hMo_poleX hMo_poleY hMo_poleZ hMo_lesser hMo_greater hMo_misfit hMo_nodal hMo_order hMo_placeOf hMo_unlikeX hMo_unlikeY hMo_unlikeZ hMo_farUp hMo_farDown hMo_axisOf Mo_isThere Mo_stationX Mo_stationY Mo_stationZ Mo_told Mo_weight Mo_size Mo_extra Mo_poles Mo_poleX Mo_poleY Mo_poleZ Mo_pairs Mo_lesser Mo_greater Mo_isKnown Mo_least Mo_kept Mo_misfit Mo_nodal Mo_order Mo_placeOf Mo_axisX Mo_axisY Mo_axisZ Mo_axes Mo_unlikeX Mo_unlikeY Mo_unlikeZ Mo_farUp Mo_farDown Mo_axisOf]) s.heap.size = A at hD ⊢
  have hA : ∀ q : Nat, s.heap.size ≤ q → A q := fun q h => by rw [← hAe]; exact Or.inr h
  have hS : va_S A s.heap s.heap [] := va_S.rf
  have hP : va_P D vwCl (List.flatten [wMo cy hMo hMo_isThere hMo_stationX hMo_stationY hMo_stationZ hMo_told hMo_weight hMo_poleX hMo_poleY hMo_poleZ hMo_lesser hMo_greater hMo_misfit hMo_nodal hMo_order hMo_placeOf hMo_unlikeX hMo_unlikeY hMo_unlikeZ hMo_farUp hMo_farDown hMo_axisOf Mo_isThere Mo_stationX Mo_stationY Mo_stationZ Mo_told Mo_weight Mo_size Mo_extra Mo_poles Mo_poleX Mo_poleY Mo_poleZ Mo_pairs Mo_lesser Mo_greater Mo_isKnown Mo_least Mo_kept Mo_misfit Mo_nodal Mo_order Mo_placeOf Mo_axisX Mo_axisY Mo_axisZ Mo_axes Mo_unlikeX Mo_unlikeY Mo_unlikeZ Mo_farUp Mo_farDown Mo_axisOf]) s.heap := hP
  have hl := lv_entry ([.ref hMo, .int p0, .int p1]) (n := 4) (Nat.le_of_ble_eq_true rfl)
  rw [lg_entry_eq]
  generalize (lg_sl ([.ref hMo, .int p0, .int p1]) ++ List.replicate (4 - (lg_sl ([.ref hMo, .int p0, .int p1])).length) Slot.unset).toArray = ls at hl ⊢
  have hl : lv_has ls 4 [(0, .ref hMo), (1, .int p0), (2, .int p1)] := hl
  unfold wp_X6_sign at hw
  refine lv_aload_n hx hb dX6_sign_0 rfl (lv_at hl 0 rfl) ?_
  refine lv_iload_n hx hb dX6_sign_1 rfl (lv_at hl 1 rfl) ?_
  refine kc_i (va_runV (As := [.int p0]) (rest := []) ⟨hx, hb, hml, hown, hts⟩ (k_X6_isStation l D cy hMo hMo_isThere hMo_stationX hMo_stationY hMo_stationZ hMo_told hMo_weight hMo_poleX hMo_poleY hMo_poleZ hMo_lesser hMo_greater hMo_misfit hMo_nodal hMo_order hMo_placeOf hMo_unlikeX hMo_unlikeY hMo_unlikeZ hMo_farUp hMo_farDown hMo_axisOf Mo_isThere Mo_stationX Mo_stationY Mo_stationZ Mo_told Mo_weight Mo_size Mo_extra Mo_poles Mo_poleX Mo_poleY Mo_poleZ Mo_pairs Mo_lesser Mo_greater Mo_isKnown Mo_least Mo_kept Mo_misfit Mo_nodal Mo_order Mo_placeOf Mo_axisX Mo_axisY Mo_axisZ Mo_axes Mo_unlikeX Mo_unlikeY Mo_unlikeZ Mo_farUp Mo_farDown Mo_axisOf p0 _ _ hw) (cwV 1 hts (gV mw_11_0 mw_11_1 mw_11_2 mw_1_5 mw_11_3) rfl rfl rfl (by decide +kernel) ⟨Nat.le_of_ble_eq_true rfl, Nat.le_of_ble_eq_true rfl⟩) (fPreV hN hK hP hD [0] rfl rfl 0 (ci := 6) rfl rfl rfl _) rfl rfl hl.1 rfl (lv_room (Nat.le_of_ble_eq_true rfl)) dX6_sign_2 ⟨Nat.zero_le _, Nat.zero_le _⟩) (fun r1 hw => ?_)
  refine lv_if_ne (tgt := 10) hx hb dX6_sign_5 (by decide) (fun c5 => ?_) (fun c5 => ?_)
  · have hw := hw.2 c5
    refine lv_iload_n hx hb dX6_sign_10 rfl (lv_at hl 2 rfl) ?_
    refine lv_iconst (v := (-1)) hx hb dX6_sign_11 (by decide) ?_
    refine lv_iconst (v := 1) hx hb dX6_sign_12 (by decide) ?_
    refine kc_i (va_runS (As := [.int p1, .int ((-1)), .int (1)]) (rest := []) ⟨hx, hb, hml, hown, hts⟩ (k_X6_within l D cy p1 (-1 : Int32) (1 : Int32) _ _ hw) (va_cwS 3 hts (gS mw_10_5 mw_10_6 mw_1_5 mw_10_7) rfl rfl rfl (by decide +kernel) ⟨Nat.le_of_ble_eq_true rfl, Nat.le_of_ble_eq_true rfl⟩) (fPre hN hK hP hD [] rfl rfl _) rfl rfl hl.1 rfl (lv_room (Nat.le_of_ble_eq_true rfl)) dX6_sign_13 ⟨Nat.zero_le _, Nat.zero_le _⟩) (fun r2 hw => ?_)
    refine lv_if_ne (tgt := 22) hx hb dX6_sign_16 (by decide) (fun c4 => ?_) (fun c4 => ?_)
    · have hw := hw.2 c4
      refine lv_aload_n hx hb dX6_sign_22 rfl (lv_at hl 0 rfl) ?_
      refine va_get (D := D) (ci := 6) (v := .ref hMo_told) (C := RX6) (T := TX6) (N := 32) hx hb hts inlX6 hown hK hP 0 rfl rfl 4 (by decide) (hts (.fieldLink RX6 23 "SquarePlanesModel" "told" "[I") mw_7_12) (fun _ h9 => h9) rfl dX6_sign_23 ?_
      refine lv_iload_n hx hb dX6_sign_26 rfl (lv_at hl 1 rfl) ?_
      refine va_iald hx hb hK hP 5 0 rfl rfl hw.1 dX6_sign_27 ?_
      have hw := hw.2
      refine lv_topi (fun x3 ex3 => ?_)
      have hw := hw x3 ex3
      refine lv_istore_n (lv' := [(3, .int x3), (0, .ref hMo), (1, .int p0), (2, .int p1)]) hx hb dX6_sign_28 rfl hl (by decide) rfl (fun ls hl => ?_)
      refine lv_aload_n hx hb dX6_sign_29 rfl (lv_at hl 1 rfl) ?_
      refine va_get (D := D) (ci := 6) (v := .ref hMo_told) (C := RX6) (T := TX6) (N := 32) hx hb hts inlX6 hown hK hP 0 rfl rfl 4 (by decide) (hts (.fieldLink RX6 23 "SquarePlanesModel" "told" "[I") mw_7_12) (fun _ h9 => h9) rfl dX6_sign_30 ?_
      refine lv_iload_n hx hb dX6_sign_33 rfl (lv_at hl 2 rfl) ?_
      refine lv_iload_n hx hb dX6_sign_34 rfl (lv_at hl 3 rfl) ?_
      refine va_iast hx hb hK hP hD hS 5 0 rfl rfl hw.1 dX6_sign_35 (fun H locs hP hD hS => ?_)
      have hw := hw.2
      have hP : va_P D vwCl (List.flatten [wMo cy hMo hMo_isThere hMo_stationX hMo_stationY hMo_stationZ hMo_told hMo_weight hMo_poleX hMo_poleY hMo_poleZ hMo_lesser hMo_greater hMo_misfit hMo_nodal hMo_order hMo_placeOf hMo_unlikeX hMo_unlikeY hMo_unlikeZ hMo_farUp hMo_farDown hMo_axisOf Mo_isThere Mo_stationX Mo_stationY Mo_stationZ (upd Mo_told p0.toNatClampNeg p1) Mo_weight Mo_size Mo_extra Mo_poles Mo_poleX Mo_poleY Mo_poleZ Mo_pairs Mo_lesser Mo_greater Mo_isKnown Mo_least Mo_kept Mo_misfit Mo_nodal Mo_order Mo_placeOf Mo_axisX Mo_axisY Mo_axisZ Mo_axes Mo_unlikeX Mo_unlikeY Mo_unlikeZ Mo_farUp Mo_farDown Mo_axisOf]) H := hP
      have hD : va_D A (List.flatten [wMo cy hMo hMo_isThere hMo_stationX hMo_stationY hMo_stationZ hMo_told hMo_weight hMo_poleX hMo_poleY hMo_poleZ hMo_lesser hMo_greater hMo_misfit hMo_nodal hMo_order hMo_placeOf hMo_unlikeX hMo_unlikeY hMo_unlikeZ hMo_farUp hMo_farDown hMo_axisOf Mo_isThere Mo_stationX Mo_stationY Mo_stationZ (upd Mo_told p0.toNatClampNeg p1) Mo_weight Mo_size Mo_extra Mo_poles Mo_poleX Mo_poleY Mo_poleZ Mo_pairs Mo_lesser Mo_greater Mo_isKnown Mo_least Mo_kept Mo_misfit Mo_nodal Mo_order Mo_placeOf Mo_axisX Mo_axisY Mo_axisZ Mo_axes Mo_unlikeX Mo_unlikeY Mo_unlikeZ Mo_farUp Mo_farDown Mo_axisOf]) := hD
      refine lv_aload_n hx hb dX6_sign_36 rfl (lv_at hl 1 rfl) ?_
      refine lv_iconst (v := 0) hx hb dX6_sign_37 (by decide) ?_
      refine va_put (D := D) (ci := 6) (v := .int 0) (ty := tyX6 15) (C := RX6) (T := TX6) (N := 32) hx hb hts inlX6 tyX6 tyX6_ok nmX6 hown hK hP hD hS 0 rfl rfl 15 (by decide) (hts (.fieldLink RX6 93 "SquarePlanesModel" "isKnown" "Z") mw_8_13) (fun _ h9 => h9) rfl (tyX6_ok 15 (by decide)) rfl rfl (Nat.le_of_ble_eq_true rfl) dX6_sign_38 (fun H locs hP hD hS => ?_)
      have hP : va_P D vwCl (List.flatten [wMo cy hMo hMo_isThere hMo_stationX hMo_stationY hMo_stationZ hMo_told hMo_weight hMo_poleX hMo_poleY hMo_poleZ hMo_lesser hMo_greater hMo_misfit hMo_nodal hMo_order hMo_placeOf hMo_unlikeX hMo_unlikeY hMo_unlikeZ hMo_farUp hMo_farDown hMo_axisOf Mo_isThere Mo_stationX Mo_stationY Mo_stationZ (upd Mo_told p0.toNatClampNeg p1) Mo_weight Mo_size Mo_extra Mo_poles Mo_poleX Mo_poleY Mo_poleZ Mo_pairs Mo_lesser Mo_greater 0 Mo_least Mo_kept Mo_misfit Mo_nodal Mo_order Mo_placeOf Mo_axisX Mo_axisY Mo_axisZ Mo_axes Mo_unlikeX Mo_unlikeY Mo_unlikeZ Mo_farUp Mo_farDown Mo_axisOf]) H := hP
      have hD : va_D A (List.flatten [wMo cy hMo hMo_isThere hMo_stationX hMo_stationY hMo_stationZ hMo_told hMo_weight hMo_poleX hMo_poleY hMo_poleZ hMo_lesser hMo_greater hMo_misfit hMo_nodal hMo_order hMo_placeOf hMo_unlikeX hMo_unlikeY hMo_unlikeZ hMo_farUp hMo_farDown hMo_axisOf Mo_isThere Mo_stationX Mo_stationY Mo_stationZ (upd Mo_told p0.toNatClampNeg p1) Mo_weight Mo_size Mo_extra Mo_poles Mo_poleX Mo_poleY Mo_poleZ Mo_pairs Mo_lesser Mo_greater 0 Mo_least Mo_kept Mo_misfit Mo_nodal Mo_order Mo_placeOf Mo_axisX Mo_axisY Mo_axisZ Mo_axes Mo_unlikeX Mo_unlikeY Mo_unlikeZ Mo_farUp Mo_farDown Mo_axisOf]) := hD
      refine lv_iload_n hx hb dX6_sign_41 rfl (lv_at hl 0 rfl) ?_
      refine lv_iconst (v := 1) hx hb dX6_sign_42 (by decide) ?_
      refine lv_iadd hx hb dX6_sign_43 ?_
      exact W.iret (v := x3 + 1) hx hb hr (fun t ht hW => ⟨⟨x3 + 1, (upd Mo_told p0.toNatClampNeg p1, 0), rfl, hw, ⟨by rw [ht]; exact hP, va_K.moved hW.alike hK, hD⟩⟩, hS.F ht⟩) hS.2.2 dX6_sign_44
    · have hw := hw.1 c4
      refine lv_bipush (v := (-2)) hx hb dX6_sign_19 (by decide) ?_
      exact W.iret (v := (-2)) hx hb hr (fun t ht hW => ⟨⟨(-2), (Mo_told, Mo_isKnown), rfl, hw, ⟨by rw [ht]; exact hP, va_K.moved hW.alike hK, hD⟩⟩, hS.F ht⟩) hS.2.2 dX6_sign_21
  · have hw := hw.1 c5
    refine lv_iconst (v := (-1)) hx hb dX6_sign_8 (by decide) ?_
    exact W.iret (v := (-1)) hx hb hr (fun t ht hW => ⟨⟨(-1), (Mo_told, Mo_isKnown), rfl, hw, ⟨by rw [ht]; exact hP, va_K.moved hW.alike hK, hD⟩⟩, hS.F ht⟩) hS.2.2 dX6_sign_9
set_option maxHeartbeats 4000000 in
set_option maxRecDepth 100000 in
theorem k_X6_weigh (l : Launch) (D : va_G) (cy : Nat → ClassId) (hMo hMo_isThere hMo_stationX hMo_stationY hMo_stationZ hMo_told hMo_weight hMo_poleX hMo_poleY hMo_poleZ hMo_lesser hMo_greater hMo_misfit hMo_nodal hMo_order hMo_placeOf hMo_unlikeX hMo_unlikeY hMo_unlikeZ hMo_farUp hMo_farDown hMo_axisOf : Nat) (Mo_isThere : Nat → Int32) (Mo_stationX : Nat → Int32) (Mo_stationY : Nat → Int32) (Mo_stationZ : Nat → Int32) (Mo_told : Nat → Int32) (Mo_weight : Nat → Int32) (Mo_size : Int32) (Mo_extra : Int32) (Mo_poles : Int32) (Mo_poleX : Nat → Int32) (Mo_poleY : Nat → Int32) (Mo_poleZ : Nat → Int32) (Mo_pairs : Int32) (Mo_lesser : Nat → Int32) (Mo_greater : Nat → Int32) (Mo_isKnown : Int32) (Mo_least : Int32) (Mo_kept : Int32) (Mo_misfit : Nat → Int32) (Mo_nodal : Nat → Int32) (Mo_order : Nat → Int32) (Mo_placeOf : Nat → Int32) (Mo_axisX : Int32) (Mo_axisY : Int32) (Mo_axisZ : Int32) (Mo_axes : Int32) (Mo_unlikeX : Nat → Int32) (Mo_unlikeY : Nat → Int32) (Mo_unlikeZ : Nat → Int32) (Mo_farUp : Nat → Int64) (Mo_farDown : Nat → Int64) (Mo_axisOf : Nat → Int32) (p0 : Int32) (p1 : Int32) (sz : Nat) (Q : Int32 → (Nat → Int32) → Int32 → Prop) (hw : wp_X6_weigh p0 p1 Mo_isThere Mo_weight Mo_isKnown Q) : Met l yX6_weigh (wA yX6_weigh cX6_weigh 4 (some .int)) { frames := 2, cells := 0, slots := 0, locals := 43 } (kPc [.ref hMo, .int p0, .int p1] D cy (List.flatten [wMo cy hMo hMo_isThere hMo_stationX hMo_stationY hMo_stationZ hMo_told hMo_weight hMo_poleX hMo_poleY hMo_poleZ hMo_lesser hMo_greater hMo_misfit hMo_nodal hMo_order hMo_placeOf hMo_unlikeX hMo_unlikeY hMo_unlikeZ hMo_farUp hMo_farDown hMo_axisOf Mo_isThere Mo_stationX Mo_stationY Mo_stationZ Mo_told Mo_weight Mo_size Mo_extra Mo_poles Mo_poleX Mo_poleY Mo_poleZ Mo_pairs Mo_lesser Mo_greater Mo_isKnown Mo_least Mo_kept Mo_misfit Mo_nodal Mo_order Mo_placeOf Mo_axisX Mo_axisY Mo_axisZ Mo_axes Mo_unlikeX Mo_unlikeY Mo_unlikeZ Mo_farUp Mo_farDown Mo_axisOf]) sz) (va_Qi (fun (r : Int32) (u : (Nat → Int32) × Int32) => Q r u.1 u.2) (fun u t => kB D cy (va_A (List.flatten [wMo cy hMo hMo_isThere hMo_stationX hMo_stationY hMo_stationZ hMo_told hMo_weight hMo_poleX hMo_poleY hMo_poleZ hMo_lesser hMo_greater hMo_misfit hMo_nodal hMo_order hMo_placeOf hMo_unlikeX hMo_unlikeY hMo_unlikeZ hMo_farUp hMo_farDown hMo_axisOf Mo_isThere Mo_stationX Mo_stationY Mo_stationZ Mo_told Mo_weight Mo_size Mo_extra Mo_poles Mo_poleX Mo_poleY Mo_poleZ Mo_pairs Mo_lesser Mo_greater Mo_isKnown Mo_least Mo_kept Mo_misfit Mo_nodal Mo_order Mo_placeOf Mo_axisX Mo_axisY Mo_axisZ Mo_axes Mo_unlikeX Mo_unlikeY Mo_unlikeZ Mo_farUp Mo_farDown Mo_axisOf]) sz) (List.flatten [wMo cy hMo hMo_isThere hMo_stationX hMo_stationY hMo_stationZ hMo_told hMo_weight hMo_poleX hMo_poleY hMo_poleZ hMo_lesser hMo_greater hMo_misfit hMo_nodal hMo_order hMo_placeOf hMo_unlikeX hMo_unlikeY hMo_unlikeZ hMo_farUp hMo_farDown hMo_axisOf Mo_isThere Mo_stationX Mo_stationY Mo_stationZ Mo_told u.1 Mo_size Mo_extra Mo_poles Mo_poleX Mo_poleY Mo_poleZ Mo_pairs Mo_lesser Mo_greater u.2 Mo_least Mo_kept Mo_misfit Mo_nodal Mo_order Mo_placeOf Mo_axisX Mo_axisY Mo_axisZ Mo_axes Mo_unlikeX Mo_unlikeY Mo_unlikeZ Mo_farUp Mo_farDown Mo_axisOf]) t) (va_A (List.flatten [wMo cy hMo hMo_isThere hMo_stationX hMo_stationY hMo_stationZ hMo_told hMo_weight hMo_poleX hMo_poleY hMo_poleZ hMo_lesser hMo_greater hMo_misfit hMo_nodal hMo_order hMo_placeOf hMo_unlikeX hMo_unlikeY hMo_unlikeZ hMo_farUp hMo_farDown hMo_axisOf Mo_isThere Mo_stationX Mo_stationY Mo_stationZ Mo_told Mo_weight Mo_size Mo_extra Mo_poles Mo_poleX Mo_poleY Mo_poleZ Mo_pairs Mo_lesser Mo_greater Mo_isKnown Mo_least Mo_kept Mo_misfit Mo_nodal Mo_order Mo_placeOf Mo_axisX Mo_axisY Mo_axisZ Mo_axes Mo_unlikeX Mo_unlikeY Mo_unlikeZ Mo_farUp Mo_farDown Mo_axisOf]) sz)) 0 0 (va_A (List.flatten [wMo cy hMo hMo_isThere hMo_stationX hMo_stationY hMo_stationZ hMo_told hMo_weight hMo_poleX hMo_poleY hMo_poleZ hMo_lesser hMo_greater hMo_misfit hMo_nodal hMo_order hMo_placeOf hMo_unlikeX hMo_unlikeY hMo_unlikeZ hMo_farUp hMo_farDown hMo_axisOf Mo_isThere Mo_stationX Mo_stationY Mo_stationZ Mo_told Mo_weight Mo_size Mo_extra Mo_poles Mo_poleX Mo_poleY Mo_poleZ Mo_pairs Mo_lesser Mo_greater Mo_isKnown Mo_least Mo_kept Mo_misfit Mo_nodal Mo_order Mo_placeOf Mo_axisX Mo_axisY Mo_axisZ Mo_axes Mo_unlikeX Mo_unlikeY Mo_unlikeZ Mo_farUp Mo_farDown Mo_axisOf]) sz) := by
  refine Met.ofW (cc := cX6_weigh) (maxL := 4) (ret := (some .int)) (by decide) rfl ?_
  intro p e s m args below meth c s₁ B hml hv
  obtain ⟨rfl, hsz, hN, hP, hK, hD0⟩ := hv
  have hx := B.exec
  have hb := B.bytes
  have hr := B.returns
  have hts0 := atoms_spec (ws := wA yX6_weigh cX6_weigh 4 (some .int)) B.pre
  have hts := fun w (h : w ∈ wsL_law) => hts0 w (List.mem_cons_of_mem _ h)
  have hown : s.vm.findClass RX6 = some m.cls := findClass_of_methodNamed B.named
  have hlocks := B.notSynchronized
  subst hsz
  have hD := hD0.self (sz := s.heap.size)
  generalize hAe : va_A (List.flatten [wMo cy hMo hMo_isThere hMo_stationX hMo_stationY hMo_stationZ hMo_told hMo_weight hMo_poleX hMo_poleY hMo_poleZ hMo_lesser hMo_greater hMo_misfit hMo_nodal hMo_order hMo_placeOf hMo_unlikeX hMo_unlikeY hMo_unlikeZ hMo_farUp hMo_farDown hMo_axisOf Mo_isThere Mo_stationX Mo_stationY Mo_stationZ Mo_told Mo_weight Mo_size Mo_extra Mo_poles Mo_poleX Mo_poleY Mo_poleZ Mo_pairs Mo_lesser Mo_greater Mo_isKnown Mo_least Mo_kept Mo_misfit Mo_nodal Mo_order Mo_placeOf Mo_axisX Mo_axisY Mo_axisZ Mo_axes Mo_unlikeX Mo_unlikeY Mo_unlikeZ Mo_farUp Mo_farDown Mo_axisOf]) s.heap.size = A at hD ⊢
  have hA : ∀ q : Nat, s.heap.size ≤ q → A q := fun q h => by rw [← hAe]; exact Or.inr h
  have hS : va_S A s.heap s.heap [] := va_S.rf
  have hP : va_P D vwCl (List.flatten [wMo cy hMo hMo_isThere hMo_stationX hMo_stationY hMo_stationZ hMo_told hMo_weight hMo_poleX hMo_poleY hMo_poleZ hMo_lesser hMo_greater hMo_misfit hMo_nodal hMo_order hMo_placeOf hMo_unlikeX hMo_unlikeY hMo_unlikeZ hMo_farUp hMo_farDown hMo_axisOf Mo_isThere Mo_stationX Mo_stationY Mo_stationZ Mo_told Mo_weight Mo_size Mo_extra Mo_poles Mo_poleX Mo_poleY Mo_poleZ Mo_pairs Mo_lesser Mo_greater Mo_isKnown Mo_least Mo_kept Mo_misfit Mo_nodal Mo_order Mo_placeOf Mo_axisX Mo_axisY Mo_axisZ Mo_axes Mo_unlikeX Mo_unlikeY Mo_unlikeZ Mo_farUp Mo_farDown Mo_axisOf]) s.heap := hP
  have hl := lv_entry ([.ref hMo, .int p0, .int p1]) (n := 4) (Nat.le_of_ble_eq_true rfl)
  rw [lg_entry_eq]
  generalize (lg_sl ([.ref hMo, .int p0, .int p1]) ++ List.replicate (4 - (lg_sl ([.ref hMo, .int p0, .int p1])).length) Slot.unset).toArray = ls at hl ⊢
  have hl : lv_has ls 4 [(0, .ref hMo), (1, .int p0), (2, .int p1)] := hl
  unfold wp_X6_weigh at hw
  refine lv_aload_n hx hb dX6_weigh_0 rfl (lv_at hl 0 rfl) ?_
  refine lv_iload_n hx hb dX6_weigh_1 rfl (lv_at hl 1 rfl) ?_
  refine kc_i (va_runV (As := [.int p0]) (rest := []) ⟨hx, hb, hml, hown, hts⟩ (k_X6_isStation l D cy hMo hMo_isThere hMo_stationX hMo_stationY hMo_stationZ hMo_told hMo_weight hMo_poleX hMo_poleY hMo_poleZ hMo_lesser hMo_greater hMo_misfit hMo_nodal hMo_order hMo_placeOf hMo_unlikeX hMo_unlikeY hMo_unlikeZ hMo_farUp hMo_farDown hMo_axisOf Mo_isThere Mo_stationX Mo_stationY Mo_stationZ Mo_told Mo_weight Mo_size Mo_extra Mo_poles Mo_poleX Mo_poleY Mo_poleZ Mo_pairs Mo_lesser Mo_greater Mo_isKnown Mo_least Mo_kept Mo_misfit Mo_nodal Mo_order Mo_placeOf Mo_axisX Mo_axisY Mo_axisZ Mo_axes Mo_unlikeX Mo_unlikeY Mo_unlikeZ Mo_farUp Mo_farDown Mo_axisOf p0 _ _ hw) (cwV 1 hts (gV mw_11_0 mw_11_1 mw_11_2 mw_1_5 mw_11_3) rfl rfl rfl (by decide +kernel) ⟨Nat.le_of_ble_eq_true rfl, Nat.le_of_ble_eq_true rfl⟩) (fPreV hN hK hP hD [0] rfl rfl 0 (ci := 6) rfl rfl rfl _) rfl rfl hl.1 rfl (lv_room (Nat.le_of_ble_eq_true rfl)) dX6_weigh_2 ⟨Nat.zero_le _, Nat.zero_le _⟩) (fun r1 hw => ?_)
  refine lv_if_ne (tgt := 10) hx hb dX6_weigh_5 (by decide) (fun c5 => ?_) (fun c5 => ?_)
  · have hw := hw.2 c5
    refine lv_iload_n hx hb dX6_weigh_10 rfl (lv_at hl 2 rfl) ?_
    refine lv_iconst (v := 1) hx hb dX6_weigh_11 (by decide) ?_
    refine lv_iconst (v := 4) hx hb dX6_weigh_12 (by decide) ?_
    refine kc_i (va_runS (As := [.int p1, .int (1), .int (4)]) (rest := []) ⟨hx, hb, hml, hown, hts⟩ (k_X6_within l D cy p1 (1 : Int32) (4 : Int32) _ _ hw) (va_cwS 3 hts (gS mw_10_5 mw_10_6 mw_1_5 mw_10_7) rfl rfl rfl (by decide +kernel) ⟨Nat.le_of_ble_eq_true rfl, Nat.le_of_ble_eq_true rfl⟩) (fPre hN hK hP hD [] rfl rfl _) rfl rfl hl.1 rfl (lv_room (Nat.le_of_ble_eq_true rfl)) dX6_weigh_13 ⟨Nat.zero_le _, Nat.zero_le _⟩) (fun r2 hw => ?_)
    refine lv_if_ne (tgt := 22) hx hb dX6_weigh_16 (by decide) (fun c4 => ?_) (fun c4 => ?_)
    · have hw := hw.2 c4
      refine lv_aload_n hx hb dX6_weigh_22 rfl (lv_at hl 0 rfl) ?_
      refine va_get (D := D) (ci := 6) (v := .ref hMo_weight) (C := RX6) (T := TX6) (N := 32) hx hb hts inlX6 hown hK hP 0 rfl rfl 5 (by decide) (hts (.fieldLink RX6 26 "SquarePlanesModel" "weight" "[I") mw_7_13) (fun _ h9 => h9) rfl dX6_weigh_23 ?_
      refine lv_iload_n hx hb dX6_weigh_26 rfl (lv_at hl 1 rfl) ?_
      refine va_iald hx hb hK hP 6 0 rfl rfl hw.1 dX6_weigh_27 ?_
      have hw := hw.2
      refine lv_topi (fun x3 ex3 => ?_)
      have hw := hw x3 ex3
      refine lv_istore_n (lv' := [(3, .int x3), (0, .ref hMo), (1, .int p0), (2, .int p1)]) hx hb dX6_weigh_28 rfl hl (by decide) rfl (fun ls hl => ?_)
      refine lv_aload_n hx hb dX6_weigh_29 rfl (lv_at hl 1 rfl) ?_
      refine va_get (D := D) (ci := 6) (v := .ref hMo_weight) (C := RX6) (T := TX6) (N := 32) hx hb hts inlX6 hown hK hP 0 rfl rfl 5 (by decide) (hts (.fieldLink RX6 26 "SquarePlanesModel" "weight" "[I") mw_7_13) (fun _ h9 => h9) rfl dX6_weigh_30 ?_
      refine lv_iload_n hx hb dX6_weigh_33 rfl (lv_at hl 2 rfl) ?_
      refine lv_iload_n hx hb dX6_weigh_34 rfl (lv_at hl 3 rfl) ?_
      refine va_iast hx hb hK hP hD hS 6 0 rfl rfl hw.1 dX6_weigh_35 (fun H locs hP hD hS => ?_)
      have hw := hw.2
      have hP : va_P D vwCl (List.flatten [wMo cy hMo hMo_isThere hMo_stationX hMo_stationY hMo_stationZ hMo_told hMo_weight hMo_poleX hMo_poleY hMo_poleZ hMo_lesser hMo_greater hMo_misfit hMo_nodal hMo_order hMo_placeOf hMo_unlikeX hMo_unlikeY hMo_unlikeZ hMo_farUp hMo_farDown hMo_axisOf Mo_isThere Mo_stationX Mo_stationY Mo_stationZ Mo_told (upd Mo_weight p0.toNatClampNeg p1) Mo_size Mo_extra Mo_poles Mo_poleX Mo_poleY Mo_poleZ Mo_pairs Mo_lesser Mo_greater Mo_isKnown Mo_least Mo_kept Mo_misfit Mo_nodal Mo_order Mo_placeOf Mo_axisX Mo_axisY Mo_axisZ Mo_axes Mo_unlikeX Mo_unlikeY Mo_unlikeZ Mo_farUp Mo_farDown Mo_axisOf]) H := hP
      have hD : va_D A (List.flatten [wMo cy hMo hMo_isThere hMo_stationX hMo_stationY hMo_stationZ hMo_told hMo_weight hMo_poleX hMo_poleY hMo_poleZ hMo_lesser hMo_greater hMo_misfit hMo_nodal hMo_order hMo_placeOf hMo_unlikeX hMo_unlikeY hMo_unlikeZ hMo_farUp hMo_farDown hMo_axisOf Mo_isThere Mo_stationX Mo_stationY Mo_stationZ Mo_told (upd Mo_weight p0.toNatClampNeg p1) Mo_size Mo_extra Mo_poles Mo_poleX Mo_poleY Mo_poleZ Mo_pairs Mo_lesser Mo_greater Mo_isKnown Mo_least Mo_kept Mo_misfit Mo_nodal Mo_order Mo_placeOf Mo_axisX Mo_axisY Mo_axisZ Mo_axes Mo_unlikeX Mo_unlikeY Mo_unlikeZ Mo_farUp Mo_farDown Mo_axisOf]) := hD
      refine lv_aload_n hx hb dX6_weigh_36 rfl (lv_at hl 1 rfl) ?_
      refine lv_iconst (v := 0) hx hb dX6_weigh_37 (by decide) ?_
      refine va_put (D := D) (ci := 6) (v := .int 0) (ty := tyX6 15) (C := RX6) (T := TX6) (N := 32) hx hb hts inlX6 tyX6 tyX6_ok nmX6 hown hK hP hD hS 0 rfl rfl 15 (by decide) (hts (.fieldLink RX6 93 "SquarePlanesModel" "isKnown" "Z") mw_8_13) (fun _ h9 => h9) rfl (tyX6_ok 15 (by decide)) rfl rfl (Nat.le_of_ble_eq_true rfl) dX6_weigh_38 (fun H locs hP hD hS => ?_)
      have hP : va_P D vwCl (List.flatten [wMo cy hMo hMo_isThere hMo_stationX hMo_stationY hMo_stationZ hMo_told hMo_weight hMo_poleX hMo_poleY hMo_poleZ hMo_lesser hMo_greater hMo_misfit hMo_nodal hMo_order hMo_placeOf hMo_unlikeX hMo_unlikeY hMo_unlikeZ hMo_farUp hMo_farDown hMo_axisOf Mo_isThere Mo_stationX Mo_stationY Mo_stationZ Mo_told (upd Mo_weight p0.toNatClampNeg p1) Mo_size Mo_extra Mo_poles Mo_poleX Mo_poleY Mo_poleZ Mo_pairs Mo_lesser Mo_greater 0 Mo_least Mo_kept Mo_misfit Mo_nodal Mo_order Mo_placeOf Mo_axisX Mo_axisY Mo_axisZ Mo_axes Mo_unlikeX Mo_unlikeY Mo_unlikeZ Mo_farUp Mo_farDown Mo_axisOf]) H := hP
      have hD : va_D A (List.flatten [wMo cy hMo hMo_isThere hMo_stationX hMo_stationY hMo_stationZ hMo_told hMo_weight hMo_poleX hMo_poleY hMo_poleZ hMo_lesser hMo_greater hMo_misfit hMo_nodal hMo_order hMo_placeOf hMo_unlikeX hMo_unlikeY hMo_unlikeZ hMo_farUp hMo_farDown hMo_axisOf Mo_isThere Mo_stationX Mo_stationY Mo_stationZ Mo_told (upd Mo_weight p0.toNatClampNeg p1) Mo_size Mo_extra Mo_poles Mo_poleX Mo_poleY Mo_poleZ Mo_pairs Mo_lesser Mo_greater 0 Mo_least Mo_kept Mo_misfit Mo_nodal Mo_order Mo_placeOf Mo_axisX Mo_axisY Mo_axisZ Mo_axes Mo_unlikeX Mo_unlikeY Mo_unlikeZ Mo_farUp Mo_farDown Mo_axisOf]) := hD
      refine lv_iload_n hx hb dX6_weigh_41 rfl (lv_at hl 0 rfl) ?_
      exact W.iret (v := x3) hx hb hr (fun t ht hW => ⟨⟨x3, (upd Mo_weight p0.toNatClampNeg p1, 0), rfl, hw, ⟨by rw [ht]; exact hP, va_K.moved hW.alike hK, hD⟩⟩, hS.F ht⟩) hS.2.2 dX6_weigh_42
    · have hw := hw.1 c4
      refine lv_bipush (v := (-2)) hx hb dX6_weigh_19 (by decide) ?_
      exact W.iret (v := (-2)) hx hb hr (fun t ht hW => ⟨⟨(-2), (Mo_weight, Mo_isKnown), rfl, hw, ⟨by rw [ht]; exact hP, va_K.moved hW.alike hK, hD⟩⟩, hS.F ht⟩) hS.2.2 dX6_weigh_21
  · have hw := hw.1 c5
    refine lv_iconst (v := (-1)) hx hb dX6_weigh_8 (by decide) ?_
    exact W.iret (v := (-1)) hx hb hr (fun t ht hW => ⟨⟨(-1), (Mo_weight, Mo_isKnown), rfl, hw, ⟨by rw [ht]; exact hP, va_K.moved hW.alike hK, hD⟩⟩, hS.F ht⟩) hS.2.2 dX6_weigh_9
set_option maxHeartbeats 4000000 in
set_option maxRecDepth 100000 in
theorem k_X6_drop (l : Launch) (D : va_G) (cy : Nat → ClassId) (hMo hMo_isThere hMo_stationX hMo_stationY hMo_stationZ hMo_told hMo_weight hMo_poleX hMo_poleY hMo_poleZ hMo_lesser hMo_greater hMo_misfit hMo_nodal hMo_order hMo_placeOf hMo_unlikeX hMo_unlikeY hMo_unlikeZ hMo_farUp hMo_farDown hMo_axisOf : Nat) (Mo_isThere : Nat → Int32) (Mo_stationX : Nat → Int32) (Mo_stationY : Nat → Int32) (Mo_stationZ : Nat → Int32) (Mo_told : Nat → Int32) (Mo_weight : Nat → Int32) (Mo_size : Int32) (Mo_extra : Int32) (Mo_poles : Int32) (Mo_poleX : Nat → Int32) (Mo_poleY : Nat → Int32) (Mo_poleZ : Nat → Int32) (Mo_pairs : Int32) (Mo_lesser : Nat → Int32) (Mo_greater : Nat → Int32) (Mo_isKnown : Int32) (Mo_least : Int32) (Mo_kept : Int32) (Mo_misfit : Nat → Int32) (Mo_nodal : Nat → Int32) (Mo_order : Nat → Int32) (Mo_placeOf : Nat → Int32) (Mo_axisX : Int32) (Mo_axisY : Int32) (Mo_axisZ : Int32) (Mo_axes : Int32) (Mo_unlikeX : Nat → Int32) (Mo_unlikeY : Nat → Int32) (Mo_unlikeZ : Nat → Int32) (Mo_farUp : Nat → Int64) (Mo_farDown : Nat → Int64) (Mo_axisOf : Nat → Int32) (p0 : Int32) (sz : Nat) (Q : Int32 → (Nat → Int32) → Int32 → Prop) (hw : wp_X6_drop p0 Mo_isThere Mo_isKnown Q) : Met l yX6_drop (wA yX6_drop cX6_drop 2 (some .int)) { frames := 2, cells := 0, slots := 0, locals := 43 } (kPc [.ref hMo, .int p0] D cy (List.flatten [wMo cy hMo hMo_isThere hMo_stationX hMo_stationY hMo_stationZ hMo_told hMo_weight hMo_poleX hMo_poleY hMo_poleZ hMo_lesser hMo_greater hMo_misfit hMo_nodal hMo_order hMo_placeOf hMo_unlikeX hMo_unlikeY hMo_unlikeZ hMo_farUp hMo_farDown hMo_axisOf Mo_isThere Mo_stationX Mo_stationY Mo_stationZ Mo_told Mo_weight Mo_size Mo_extra Mo_poles Mo_poleX Mo_poleY Mo_poleZ Mo_pairs Mo_lesser Mo_greater Mo_isKnown Mo_least Mo_kept Mo_misfit Mo_nodal Mo_order Mo_placeOf Mo_axisX Mo_axisY Mo_axisZ Mo_axes Mo_unlikeX Mo_unlikeY Mo_unlikeZ Mo_farUp Mo_farDown Mo_axisOf]) sz) (va_Qi (fun (r : Int32) (u : (Nat → Int32) × Int32) => Q r u.1 u.2) (fun u t => kB D cy (va_A (List.flatten [wMo cy hMo hMo_isThere hMo_stationX hMo_stationY hMo_stationZ hMo_told hMo_weight hMo_poleX hMo_poleY hMo_poleZ hMo_lesser hMo_greater hMo_misfit hMo_nodal hMo_order hMo_placeOf hMo_unlikeX hMo_unlikeY hMo_unlikeZ hMo_farUp hMo_farDown hMo_axisOf Mo_isThere Mo_stationX Mo_stationY Mo_stationZ Mo_told Mo_weight Mo_size Mo_extra Mo_poles Mo_poleX Mo_poleY Mo_poleZ Mo_pairs Mo_lesser Mo_greater Mo_isKnown Mo_least Mo_kept Mo_misfit Mo_nodal Mo_order Mo_placeOf Mo_axisX Mo_axisY Mo_axisZ Mo_axes Mo_unlikeX Mo_unlikeY Mo_unlikeZ Mo_farUp Mo_farDown Mo_axisOf]) sz) (List.flatten [wMo cy hMo hMo_isThere hMo_stationX hMo_stationY hMo_stationZ hMo_told hMo_weight hMo_poleX hMo_poleY hMo_poleZ hMo_lesser hMo_greater hMo_misfit hMo_nodal hMo_order hMo_placeOf hMo_unlikeX hMo_unlikeY hMo_unlikeZ hMo_farUp hMo_farDown hMo_axisOf u.1 Mo_stationX Mo_stationY Mo_stationZ Mo_told Mo_weight Mo_size Mo_extra Mo_poles Mo_poleX Mo_poleY Mo_poleZ Mo_pairs Mo_lesser Mo_greater u.2 Mo_least Mo_kept Mo_misfit Mo_nodal Mo_order Mo_placeOf Mo_axisX Mo_axisY Mo_axisZ Mo_axes Mo_unlikeX Mo_unlikeY Mo_unlikeZ Mo_farUp Mo_farDown Mo_axisOf]) t) (va_A (List.flatten [wMo cy hMo hMo_isThere hMo_stationX hMo_stationY hMo_stationZ hMo_told hMo_weight hMo_poleX hMo_poleY hMo_poleZ hMo_lesser hMo_greater hMo_misfit hMo_nodal hMo_order hMo_placeOf hMo_unlikeX hMo_unlikeY hMo_unlikeZ hMo_farUp hMo_farDown hMo_axisOf Mo_isThere Mo_stationX Mo_stationY Mo_stationZ Mo_told Mo_weight Mo_size Mo_extra Mo_poles Mo_poleX Mo_poleY Mo_poleZ Mo_pairs Mo_lesser Mo_greater Mo_isKnown Mo_least Mo_kept Mo_misfit Mo_nodal Mo_order Mo_placeOf Mo_axisX Mo_axisY Mo_axisZ Mo_axes Mo_unlikeX Mo_unlikeY Mo_unlikeZ Mo_farUp Mo_farDown Mo_axisOf]) sz)) 0 0 (va_A (List.flatten [wMo cy hMo hMo_isThere hMo_stationX hMo_stationY hMo_stationZ hMo_told hMo_weight hMo_poleX hMo_poleY hMo_poleZ hMo_lesser hMo_greater hMo_misfit hMo_nodal hMo_order hMo_placeOf hMo_unlikeX hMo_unlikeY hMo_unlikeZ hMo_farUp hMo_farDown hMo_axisOf Mo_isThere Mo_stationX Mo_stationY Mo_stationZ Mo_told Mo_weight Mo_size Mo_extra Mo_poles Mo_poleX Mo_poleY Mo_poleZ Mo_pairs Mo_lesser Mo_greater Mo_isKnown Mo_least Mo_kept Mo_misfit Mo_nodal Mo_order Mo_placeOf Mo_axisX Mo_axisY Mo_axisZ Mo_axes Mo_unlikeX Mo_unlikeY Mo_unlikeZ Mo_farUp Mo_farDown Mo_axisOf]) sz) := by
  refine Met.ofW (cc := cX6_drop) (maxL := 2) (ret := (some .int)) (by decide) rfl ?_
  intro p e s m args below meth c s₁ B hml hv
  obtain ⟨rfl, hsz, hN, hP, hK, hD0⟩ := hv
  have hx := B.exec
  have hb := B.bytes
  have hr := B.returns
  have hts0 := atoms_spec (ws := wA yX6_drop cX6_drop 2 (some .int)) B.pre
  have hts := fun w (h : w ∈ wsL_law) => hts0 w (List.mem_cons_of_mem _ h)
  have hown : s.vm.findClass RX6 = some m.cls := findClass_of_methodNamed B.named
  have hlocks := B.notSynchronized
  subst hsz
  have hD := hD0.self (sz := s.heap.size)
  generalize hAe : va_A (List.flatten [wMo cy hMo hMo_isThere hMo_stationX hMo_stationY hMo_stationZ hMo_told hMo_weight hMo_poleX hMo_poleY hMo_poleZ hMo_lesser hMo_greater hMo_misfit hMo_nodal hMo_order hMo_placeOf hMo_unlikeX hMo_unlikeY hMo_unlikeZ hMo_farUp hMo_farDown hMo_axisOf Mo_isThere Mo_stationX Mo_stationY Mo_stationZ Mo_told Mo_weight Mo_size Mo_extra Mo_poles Mo_poleX Mo_poleY Mo_poleZ Mo_pairs Mo_lesser Mo_greater Mo_isKnown Mo_least Mo_kept Mo_misfit Mo_nodal Mo_order Mo_placeOf Mo_axisX Mo_axisY Mo_axisZ Mo_axes Mo_unlikeX Mo_unlikeY Mo_unlikeZ Mo_farUp Mo_farDown Mo_axisOf]) s.heap.size = A at hD ⊢
  have hA : ∀ q : Nat, s.heap.size ≤ q → A q := fun q h => by rw [← hAe]; exact Or.inr h
  have hS : va_S A s.heap s.heap [] := va_S.rf
  have hP : va_P D vwCl (List.flatten [wMo cy hMo hMo_isThere hMo_stationX hMo_stationY hMo_stationZ hMo_told hMo_weight hMo_poleX hMo_poleY hMo_poleZ hMo_lesser hMo_greater hMo_misfit hMo_nodal hMo_order hMo_placeOf hMo_unlikeX hMo_unlikeY hMo_unlikeZ hMo_farUp hMo_farDown hMo_axisOf Mo_isThere Mo_stationX Mo_stationY Mo_stationZ Mo_told Mo_weight Mo_size Mo_extra Mo_poles Mo_poleX Mo_poleY Mo_poleZ Mo_pairs Mo_lesser Mo_greater Mo_isKnown Mo_least Mo_kept Mo_misfit Mo_nodal Mo_order Mo_placeOf Mo_axisX Mo_axisY Mo_axisZ Mo_axes Mo_unlikeX Mo_unlikeY Mo_unlikeZ Mo_farUp Mo_farDown Mo_axisOf]) s.heap := hP
  have hl := lv_entry ([.ref hMo, .int p0]) (n := 2) (Nat.le_of_ble_eq_true rfl)
  rw [lg_entry_eq]
  generalize (lg_sl ([.ref hMo, .int p0]) ++ List.replicate (2 - (lg_sl ([.ref hMo, .int p0])).length) Slot.unset).toArray = ls at hl ⊢
  have hl : lv_has ls 2 [(0, .ref hMo), (1, .int p0)] := hl
  unfold wp_X6_drop at hw
  refine lv_aload_n hx hb dX6_drop_0 rfl (lv_at hl 0 rfl) ?_
  refine lv_iload_n hx hb dX6_drop_1 rfl (lv_at hl 1 rfl) ?_
  refine kc_i (va_runV (As := [.int p0]) (rest := []) ⟨hx, hb, hml, hown, hts⟩ (k_X6_isStation l D cy hMo hMo_isThere hMo_stationX hMo_stationY hMo_stationZ hMo_told hMo_weight hMo_poleX hMo_poleY hMo_poleZ hMo_lesser hMo_greater hMo_misfit hMo_nodal hMo_order hMo_placeOf hMo_unlikeX hMo_unlikeY hMo_unlikeZ hMo_farUp hMo_farDown hMo_axisOf Mo_isThere Mo_stationX Mo_stationY Mo_stationZ Mo_told Mo_weight Mo_size Mo_extra Mo_poles Mo_poleX Mo_poleY Mo_poleZ Mo_pairs Mo_lesser Mo_greater Mo_isKnown Mo_least Mo_kept Mo_misfit Mo_nodal Mo_order Mo_placeOf Mo_axisX Mo_axisY Mo_axisZ Mo_axes Mo_unlikeX Mo_unlikeY Mo_unlikeZ Mo_farUp Mo_farDown Mo_axisOf p0 _ _ hw) (cwV 1 hts (gV mw_11_0 mw_11_1 mw_11_2 mw_1_5 mw_11_3) rfl rfl rfl (by decide +kernel) ⟨Nat.le_of_ble_eq_true rfl, Nat.le_of_ble_eq_true rfl⟩) (fPreV hN hK hP hD [0] rfl rfl 0 (ci := 6) rfl rfl rfl _) rfl rfl hl.1 rfl (lv_room (Nat.le_of_ble_eq_true rfl)) dX6_drop_2 ⟨Nat.zero_le _, Nat.zero_le _⟩) (fun r1 hw => ?_)
  refine lv_if_ne (tgt := 10) hx hb dX6_drop_5 (by decide) (fun c3 => ?_) (fun c3 => ?_)
  · have hw := hw.2 c3
    refine lv_aload_n hx hb dX6_drop_10 rfl (lv_at hl 0 rfl) ?_
    refine va_get (D := D) (ci := 6) (v := .ref hMo_isThere) (C := RX6) (T := TX6) (N := 32) hx hb hts inlX6 hown hK hP 0 rfl rfl 0 (by decide) (hts (.fieldLink RX6 7 "SquarePlanesModel" "isThere" "[Z") mw_7_8) (fun _ h9 => h9) rfl dX6_drop_11 ?_
    refine lv_iload_n hx hb dX6_drop_14 rfl (lv_at hl 1 rfl) ?_
    refine lv_iconst (v := 0) hx hb dX6_drop_15 (by decide) ?_
    refine va_zast hx hb hK hP hD hS 1 1 rfl rfl hw.1 dX6_drop_16 (fun H locs hP hD hS => ?_)
    have hw := hw.2
    have hP : va_P D vwCl (List.flatten [wMo cy hMo hMo_isThere hMo_stationX hMo_stationY hMo_stationZ hMo_told hMo_weight hMo_poleX hMo_poleY hMo_poleZ hMo_lesser hMo_greater hMo_misfit hMo_nodal hMo_order hMo_placeOf hMo_unlikeX hMo_unlikeY hMo_unlikeZ hMo_farUp hMo_farDown hMo_axisOf (upd Mo_isThere p0.toNatClampNeg 0) Mo_stationX Mo_stationY Mo_stationZ Mo_told Mo_weight Mo_size Mo_extra Mo_poles Mo_poleX Mo_poleY Mo_poleZ Mo_pairs Mo_lesser Mo_greater Mo_isKnown Mo_least Mo_kept Mo_misfit Mo_nodal Mo_order Mo_placeOf Mo_axisX Mo_axisY Mo_axisZ Mo_axes Mo_unlikeX Mo_unlikeY Mo_unlikeZ Mo_farUp Mo_farDown Mo_axisOf]) H := hP
    have hD : va_D A (List.flatten [wMo cy hMo hMo_isThere hMo_stationX hMo_stationY hMo_stationZ hMo_told hMo_weight hMo_poleX hMo_poleY hMo_poleZ hMo_lesser hMo_greater hMo_misfit hMo_nodal hMo_order hMo_placeOf hMo_unlikeX hMo_unlikeY hMo_unlikeZ hMo_farUp hMo_farDown hMo_axisOf (upd Mo_isThere p0.toNatClampNeg 0) Mo_stationX Mo_stationY Mo_stationZ Mo_told Mo_weight Mo_size Mo_extra Mo_poles Mo_poleX Mo_poleY Mo_poleZ Mo_pairs Mo_lesser Mo_greater Mo_isKnown Mo_least Mo_kept Mo_misfit Mo_nodal Mo_order Mo_placeOf Mo_axisX Mo_axisY Mo_axisZ Mo_axes Mo_unlikeX Mo_unlikeY Mo_unlikeZ Mo_farUp Mo_farDown Mo_axisOf]) := hD
    refine lv_aload_n hx hb dX6_drop_17 rfl (lv_at hl 0 rfl) ?_
    refine lv_iconst (v := 0) hx hb dX6_drop_18 (by decide) ?_
    refine va_put (D := D) (ci := 6) (v := .int 0) (ty := tyX6 15) (C := RX6) (T := TX6) (N := 32) hx hb hts inlX6 tyX6 tyX6_ok nmX6 hown hK hP hD hS 0 rfl rfl 15 (by decide) (hts (.fieldLink RX6 93 "SquarePlanesModel" "isKnown" "Z") mw_8_13) (fun _ h9 => h9) rfl (tyX6_ok 15 (by decide)) rfl rfl (Nat.le_of_ble_eq_true rfl) dX6_drop_19 (fun H locs hP hD hS => ?_)
    have hP : va_P D vwCl (List.flatten [wMo cy hMo hMo_isThere hMo_stationX hMo_stationY hMo_stationZ hMo_told hMo_weight hMo_poleX hMo_poleY hMo_poleZ hMo_lesser hMo_greater hMo_misfit hMo_nodal hMo_order hMo_placeOf hMo_unlikeX hMo_unlikeY hMo_unlikeZ hMo_farUp hMo_farDown hMo_axisOf (upd Mo_isThere p0.toNatClampNeg 0) Mo_stationX Mo_stationY Mo_stationZ Mo_told Mo_weight Mo_size Mo_extra Mo_poles Mo_poleX Mo_poleY Mo_poleZ Mo_pairs Mo_lesser Mo_greater 0 Mo_least Mo_kept Mo_misfit Mo_nodal Mo_order Mo_placeOf Mo_axisX Mo_axisY Mo_axisZ Mo_axes Mo_unlikeX Mo_unlikeY Mo_unlikeZ Mo_farUp Mo_farDown Mo_axisOf]) H := hP
    have hD : va_D A (List.flatten [wMo cy hMo hMo_isThere hMo_stationX hMo_stationY hMo_stationZ hMo_told hMo_weight hMo_poleX hMo_poleY hMo_poleZ hMo_lesser hMo_greater hMo_misfit hMo_nodal hMo_order hMo_placeOf hMo_unlikeX hMo_unlikeY hMo_unlikeZ hMo_farUp hMo_farDown hMo_axisOf (upd Mo_isThere p0.toNatClampNeg 0) Mo_stationX Mo_stationY Mo_stationZ Mo_told Mo_weight Mo_size Mo_extra Mo_poles Mo_poleX Mo_poleY Mo_poleZ Mo_pairs Mo_lesser Mo_greater 0 Mo_least Mo_kept Mo_misfit Mo_nodal Mo_order Mo_placeOf Mo_axisX Mo_axisY Mo_axisZ Mo_axes Mo_unlikeX Mo_unlikeY Mo_unlikeZ Mo_farUp Mo_farDown Mo_axisOf]) := hD
    refine lv_aload_n hx hb dX6_drop_22 rfl (lv_at hl 0 rfl) ?_
    refine kc_i (va_runV (As := []) (rest := []) ⟨hx, hb, hml, hown, hts⟩ (k_X6_stations l D cy hMo hMo_isThere hMo_stationX hMo_stationY hMo_stationZ hMo_told hMo_weight hMo_poleX hMo_poleY hMo_poleZ hMo_lesser hMo_greater hMo_misfit hMo_nodal hMo_order hMo_placeOf hMo_unlikeX hMo_unlikeY hMo_unlikeZ hMo_farUp hMo_farDown hMo_axisOf (upd Mo_isThere p0.toNatClampNeg 0) Mo_stationX Mo_stationY Mo_stationZ Mo_told Mo_weight Mo_size Mo_extra Mo_poles Mo_poleX Mo_poleY Mo_poleZ Mo_pairs Mo_lesser Mo_greater 0 Mo_least Mo_kept Mo_misfit Mo_nodal Mo_order Mo_placeOf Mo_axisX Mo_axisY Mo_axisZ Mo_axes Mo_unlikeX Mo_unlikeY Mo_unlikeZ Mo_farUp Mo_farDown Mo_axisOf _ _ hw) (cwV 0 hts (gV mw_12_1 mw_12_2 mw_12_3 mw_1_5 mw_12_4) rfl rfl rfl (by decide +kernel) ⟨Nat.le_of_ble_eq_true rfl, Nat.le_of_ble_eq_true rfl⟩) (fPreV hN hK hP hD [0] rfl rfl 0 (ci := 6) rfl rfl rfl _) rfl rfl hl.1 rfl (lv_room (Nat.le_of_ble_eq_true rfl)) dX6_drop_23 ⟨Nat.zero_le _, Nat.zero_le _⟩) (fun r2 hw => ?_)
    exact W.iret (v := r2) hx hb hr (fun t ht hW => ⟨⟨r2, (upd Mo_isThere p0.toNatClampNeg 0, 0), rfl, hw, ⟨by rw [ht]; exact hP, va_K.moved hW.alike hK, hD⟩⟩, hS.F ht⟩) hS.2.2 dX6_drop_26
  · have hw := hw.1 c3
    refine lv_iconst (v := (-1)) hx hb dX6_drop_8 (by decide) ?_
    exact W.iret (v := (-1)) hx hb hr (fun t ht hW => ⟨⟨(-1), (Mo_isThere, Mo_isKnown), rfl, hw, ⟨by rw [ht]; exact hP, va_K.moved hW.alike hK, hD⟩⟩, hS.F ht⟩) hS.2.2 dX6_drop_9
set_option maxHeartbeats 4000000 in
set_option maxRecDepth 100000 in
theorem k_X6_addPoles (l : Launch) (D : va_G) (cy : Nat → ClassId) (hMo hMo_isThere hMo_stationX hMo_stationY hMo_stationZ hMo_told hMo_weight hMo_poleX hMo_poleY hMo_poleZ hMo_lesser hMo_greater hMo_misfit hMo_nodal hMo_order hMo_placeOf hMo_unlikeX hMo_unlikeY hMo_unlikeZ hMo_farUp hMo_farDown hMo_axisOf : Nat) (Mo_isThere : Nat → Int32) (Mo_stationX : Nat → Int32) (Mo_stationY : Nat → Int32) (Mo_stationZ : Nat → Int32) (Mo_told : Nat → Int32) (Mo_weight : Nat → Int32) (Mo_size : Int32) (Mo_extra : Int32) (Mo_poles : Int32) (Mo_poleX : Nat → Int32) (Mo_poleY : Nat → Int32) (Mo_poleZ : Nat → Int32) (Mo_pairs : Int32) (Mo_lesser : Nat → Int32) (Mo_greater : Nat → Int32) (Mo_isKnown : Int32) (Mo_least : Int32) (Mo_kept : Int32) (Mo_misfit : Nat → Int32) (Mo_nodal : Nat → Int32) (Mo_order : Nat → Int32) (Mo_placeOf : Nat → Int32) (Mo_axisX : Int32) (Mo_axisY : Int32) (Mo_axisZ : Int32) (Mo_axes : Int32) (Mo_unlikeX : Nat → Int32) (Mo_unlikeY : Nat → Int32) (Mo_unlikeZ : Nat → Int32) (Mo_farUp : Nat → Int64) (Mo_farDown : Nat → Int64) (Mo_axisOf : Nat → Int32) (p0 : Int32) (p1 : Int32) (sz : Nat) (Q : Int32 → (Nat → Int32) → (Nat → Int32) → (Nat → Int32) → Prop) (hw : wp_X6_addPoles p0 p1 Mo_poles Mo_poleX Mo_poleY Mo_poleZ Q) : Met l yX6_addPoles (wA yX6_addPoles cX6_addPoles 7 none) { frames := 2, cells := 0, slots := 0, locals := 42 } (kPc [.ref hMo, .int p0, .int p1] D cy (List.flatten [wMo cy hMo hMo_isThere hMo_stationX hMo_stationY hMo_stationZ hMo_told hMo_weight hMo_poleX hMo_poleY hMo_poleZ hMo_lesser hMo_greater hMo_misfit hMo_nodal hMo_order hMo_placeOf hMo_unlikeX hMo_unlikeY hMo_unlikeZ hMo_farUp hMo_farDown hMo_axisOf Mo_isThere Mo_stationX Mo_stationY Mo_stationZ Mo_told Mo_weight Mo_size Mo_extra Mo_poles Mo_poleX Mo_poleY Mo_poleZ Mo_pairs Mo_lesser Mo_greater Mo_isKnown Mo_least Mo_kept Mo_misfit Mo_nodal Mo_order Mo_placeOf Mo_axisX Mo_axisY Mo_axisZ Mo_axes Mo_unlikeX Mo_unlikeY Mo_unlikeZ Mo_farUp Mo_farDown Mo_axisOf]) sz) (va_Qv (fun (u : Int32 × (Nat → Int32) × (Nat → Int32) × (Nat → Int32)) => Q u.1 u.2.1 u.2.2.1 u.2.2.2) (fun u t => kB D cy (va_A (List.flatten [wMo cy hMo hMo_isThere hMo_stationX hMo_stationY hMo_stationZ hMo_told hMo_weight hMo_poleX hMo_poleY hMo_poleZ hMo_lesser hMo_greater hMo_misfit hMo_nodal hMo_order hMo_placeOf hMo_unlikeX hMo_unlikeY hMo_unlikeZ hMo_farUp hMo_farDown hMo_axisOf Mo_isThere Mo_stationX Mo_stationY Mo_stationZ Mo_told Mo_weight Mo_size Mo_extra Mo_poles Mo_poleX Mo_poleY Mo_poleZ Mo_pairs Mo_lesser Mo_greater Mo_isKnown Mo_least Mo_kept Mo_misfit Mo_nodal Mo_order Mo_placeOf Mo_axisX Mo_axisY Mo_axisZ Mo_axes Mo_unlikeX Mo_unlikeY Mo_unlikeZ Mo_farUp Mo_farDown Mo_axisOf]) sz) (List.flatten [wMo cy hMo hMo_isThere hMo_stationX hMo_stationY hMo_stationZ hMo_told hMo_weight hMo_poleX hMo_poleY hMo_poleZ hMo_lesser hMo_greater hMo_misfit hMo_nodal hMo_order hMo_placeOf hMo_unlikeX hMo_unlikeY hMo_unlikeZ hMo_farUp hMo_farDown hMo_axisOf Mo_isThere Mo_stationX Mo_stationY Mo_stationZ Mo_told Mo_weight Mo_size Mo_extra u.1 u.2.1 u.2.2.1 u.2.2.2 Mo_pairs Mo_lesser Mo_greater Mo_isKnown Mo_least Mo_kept Mo_misfit Mo_nodal Mo_order Mo_placeOf Mo_axisX Mo_axisY Mo_axisZ Mo_axes Mo_unlikeX Mo_unlikeY Mo_unlikeZ Mo_farUp Mo_farDown Mo_axisOf]) t) (va_A (List.flatten [wMo cy hMo hMo_isThere hMo_stationX hMo_stationY hMo_stationZ hMo_told hMo_weight hMo_poleX hMo_poleY hMo_poleZ hMo_lesser hMo_greater hMo_misfit hMo_nodal hMo_order hMo_placeOf hMo_unlikeX hMo_unlikeY hMo_unlikeZ hMo_farUp hMo_farDown hMo_axisOf Mo_isThere Mo_stationX Mo_stationY Mo_stationZ Mo_told Mo_weight Mo_size Mo_extra Mo_poles Mo_poleX Mo_poleY Mo_poleZ Mo_pairs Mo_lesser Mo_greater Mo_isKnown Mo_least Mo_kept Mo_misfit Mo_nodal Mo_order Mo_placeOf Mo_axisX Mo_axisY Mo_axisZ Mo_axes Mo_unlikeX Mo_unlikeY Mo_unlikeZ Mo_farUp Mo_farDown Mo_axisOf]) sz)) 0 0 (va_A (List.flatten [wMo cy hMo hMo_isThere hMo_stationX hMo_stationY hMo_stationZ hMo_told hMo_weight hMo_poleX hMo_poleY hMo_poleZ hMo_lesser hMo_greater hMo_misfit hMo_nodal hMo_order hMo_placeOf hMo_unlikeX hMo_unlikeY hMo_unlikeZ hMo_farUp hMo_farDown hMo_axisOf Mo_isThere Mo_stationX Mo_stationY Mo_stationZ Mo_told Mo_weight Mo_size Mo_extra Mo_poles Mo_poleX Mo_poleY Mo_poleZ Mo_pairs Mo_lesser Mo_greater Mo_isKnown Mo_least Mo_kept Mo_misfit Mo_nodal Mo_order Mo_placeOf Mo_axisX Mo_axisY Mo_axisZ Mo_axes Mo_unlikeX Mo_unlikeY Mo_unlikeZ Mo_farUp Mo_farDown Mo_axisOf]) sz) := by
  refine Met.ofW (cc := cX6_addPoles) (maxL := 7) (ret := none) (by decide) rfl ?_
  intro p e s m args below meth c s₁ B hml hv
  obtain ⟨rfl, hsz, hN, hP, hK, hD0⟩ := hv
  have hx := B.exec
  have hb := B.bytes
  have hr := B.returns
  have hts0 := atoms_spec (ws := wA yX6_addPoles cX6_addPoles 7 none) B.pre
  have hts := fun w (h : w ∈ wsL_law) => hts0 w (List.mem_cons_of_mem _ h)
  have hown : s.vm.findClass RX6 = some m.cls := findClass_of_methodNamed B.named
  have hlocks := B.notSynchronized
  subst hsz
  have hD := hD0.self (sz := s.heap.size)
  generalize hAe : va_A (List.flatten [wMo cy hMo hMo_isThere hMo_stationX hMo_stationY hMo_stationZ hMo_told hMo_weight hMo_poleX hMo_poleY hMo_poleZ hMo_lesser hMo_greater hMo_misfit hMo_nodal hMo_order hMo_placeOf hMo_unlikeX hMo_unlikeY hMo_unlikeZ hMo_farUp hMo_farDown hMo_axisOf Mo_isThere Mo_stationX Mo_stationY Mo_stationZ Mo_told Mo_weight Mo_size Mo_extra Mo_poles Mo_poleX Mo_poleY Mo_poleZ Mo_pairs Mo_lesser Mo_greater Mo_isKnown Mo_least Mo_kept Mo_misfit Mo_nodal Mo_order Mo_placeOf Mo_axisX Mo_axisY Mo_axisZ Mo_axes Mo_unlikeX Mo_unlikeY Mo_unlikeZ Mo_farUp Mo_farDown Mo_axisOf]) s.heap.size = A at hD ⊢
  have hA : ∀ q : Nat, s.heap.size ≤ q → A q := fun q h => by rw [← hAe]; exact Or.inr h
  have hS : va_S A s.heap s.heap [] := va_S.rf
  have hP : va_P D vwCl (List.flatten [wMo cy hMo hMo_isThere hMo_stationX hMo_stationY hMo_stationZ hMo_told hMo_weight hMo_poleX hMo_poleY hMo_poleZ hMo_lesser hMo_greater hMo_misfit hMo_nodal hMo_order hMo_placeOf hMo_unlikeX hMo_unlikeY hMo_unlikeZ hMo_farUp hMo_farDown hMo_axisOf Mo_isThere Mo_stationX Mo_stationY Mo_stationZ Mo_told Mo_weight Mo_size Mo_extra Mo_poles Mo_poleX Mo_poleY Mo_poleZ Mo_pairs Mo_lesser Mo_greater Mo_isKnown Mo_least Mo_kept Mo_misfit Mo_nodal Mo_order Mo_placeOf Mo_axisX Mo_axisY Mo_axisZ Mo_axes Mo_unlikeX Mo_unlikeY Mo_unlikeZ Mo_farUp Mo_farDown Mo_axisOf]) s.heap := hP
  have hl := lv_entry ([.ref hMo, .int p0, .int p1]) (n := 7) (Nat.le_of_ble_eq_true rfl)
  rw [lg_entry_eq]
  generalize (lg_sl ([.ref hMo, .int p0, .int p1]) ++ List.replicate (7 - (lg_sl ([.ref hMo, .int p0, .int p1])).length) Slot.unset).toArray = ls at hl ⊢
  have hl : lv_has ls 7 [(0, .ref hMo), (1, .int p0), (2, .int p1)] := hl
  unfold wp_X6_addPoles at hw
  refine lv_iconst (v := 0) hx hb dX6_addPoles_0 (by decide) ?_
  refine lv_istore_n (lv' := [(3, .int 0), (0, .ref hMo), (1, .int p0), (2, .int p1)]) hx hb dX6_addPoles_1 rfl hl (by decide) rfl (fun ls hl => ?_)
  obtain ⟨n2, hw⟩ := hw
  have kl2 : ∀ (K2_159 : Int32 → Int32 → (Nat → Int32) → (Nat → Int32) → (Nat → Int32) → Prop) (hk2_159 : ∀ (y3_2 : Int32) (Mo_poles_v_2 : Int32) (Mo_poleX_v_2 : Nat → Int32) (Mo_poleY_v_2 : Nat → Int32) (Mo_poleZ_v_2 : Nat → Int32) (H : Heap) (locs : List Loc) (ls : Array Slot), K2_159 y3_2 Mo_poles_v_2 Mo_poleX_v_2 Mo_poleY_v_2 Mo_poleZ_v_2 → va_P D vwCl (List.flatten [wMo cy hMo hMo_isThere hMo_stationX hMo_stationY hMo_stationZ hMo_told hMo_weight hMo_poleX hMo_poleY hMo_poleZ hMo_lesser hMo_greater hMo_misfit hMo_nodal hMo_order hMo_placeOf hMo_unlikeX hMo_unlikeY hMo_unlikeZ hMo_farUp hMo_farDown hMo_axisOf Mo_isThere Mo_stationX Mo_stationY Mo_stationZ Mo_told Mo_weight Mo_size Mo_extra Mo_poles_v_2 Mo_poleX_v_2 Mo_poleY_v_2 Mo_poleZ_v_2 Mo_pairs Mo_lesser Mo_greater Mo_isKnown Mo_least Mo_kept Mo_misfit Mo_nodal Mo_order Mo_placeOf Mo_axisX Mo_axisY Mo_axisZ Mo_axes Mo_unlikeX Mo_unlikeY Mo_unlikeZ Mo_farUp Mo_farDown Mo_axisOf]) H → va_D A (List.flatten [wMo cy hMo hMo_isThere hMo_stationX hMo_stationY hMo_stationZ hMo_told hMo_weight hMo_poleX hMo_poleY hMo_poleZ hMo_lesser hMo_greater hMo_misfit hMo_nodal hMo_order hMo_placeOf hMo_unlikeX hMo_unlikeY hMo_unlikeZ hMo_farUp hMo_farDown hMo_axisOf Mo_isThere Mo_stationX Mo_stationY Mo_stationZ Mo_told Mo_weight Mo_size Mo_extra Mo_poles_v_2 Mo_poleX_v_2 Mo_poleY_v_2 Mo_poleZ_v_2 Mo_pairs Mo_lesser Mo_greater Mo_isKnown Mo_least Mo_kept Mo_misfit Mo_nodal Mo_order Mo_placeOf Mo_axisX Mo_axisY Mo_axisZ Mo_axes Mo_unlikeX Mo_unlikeY Mo_unlikeZ Mo_farUp Mo_farDown Mo_axisOf]) → va_S A s.heap H locs → lv_has ls 7 [(0, .ref hMo), (1, .int p0), (2, .int p1), (3, .int y3_2)] → W p l e (headSpec (wA yX6_addPoles cX6_addPoles 7 none) { frames := 2, cells := 0, slots := 0, locals := 42 }).room s m #[.ref hMo, .int p0, .int p1] below meth c H locs 0 0 (MQ below (va_Qv (fun (u : Int32 × (Nat → Int32) × (Nat → Int32) × (Nat → Int32)) => Q u.1 u.2.1 u.2.2.1 u.2.2.2) (fun u t => kB D cy A (List.flatten [wMo cy hMo hMo_isThere hMo_stationX hMo_stationY hMo_stationZ hMo_told hMo_weight hMo_poleX hMo_poleY hMo_poleZ hMo_lesser hMo_greater hMo_misfit hMo_nodal hMo_order hMo_placeOf hMo_unlikeX hMo_unlikeY hMo_unlikeZ hMo_farUp hMo_farDown hMo_axisOf Mo_isThere Mo_stationX Mo_stationY Mo_stationZ Mo_told Mo_weight Mo_size Mo_extra u.1 u.2.1 u.2.2.1 u.2.2.2 Mo_pairs Mo_lesser Mo_greater Mo_isKnown Mo_least Mo_kept Mo_misfit Mo_nodal Mo_order Mo_placeOf Mo_axisX Mo_axisY Mo_axisZ Mo_axes Mo_unlikeX Mo_unlikeY Mo_unlikeZ Mo_farUp Mo_farDown Mo_axisOf]) t) A) #[.ref hMo, .int p0, .int p1] s 0 0 A) (F0 m 159 ls [])) (n : Nat) (y3_2 : Int32) (Mo_poles_v_2 : Int32) (Mo_poleX_v_2 : Nat → Int32) (Mo_poleY_v_2 : Nat → Int32) (Mo_poleZ_v_2 : Nat → Int32) (H : Heap) (locs : List Loc) (ls : Array Slot), wp_X6_addPoles_L2 p0 p1 K2_159 n y3_2 Mo_poles_v_2 Mo_poleX_v_2 Mo_poleY_v_2 Mo_poleZ_v_2 → va_P D vwCl (List.flatten [wMo cy hMo hMo_isThere hMo_stationX hMo_stationY hMo_stationZ hMo_told hMo_weight hMo_poleX hMo_poleY hMo_poleZ hMo_lesser hMo_greater hMo_misfit hMo_nodal hMo_order hMo_placeOf hMo_unlikeX hMo_unlikeY hMo_unlikeZ hMo_farUp hMo_farDown hMo_axisOf Mo_isThere Mo_stationX Mo_stationY Mo_stationZ Mo_told Mo_weight Mo_size Mo_extra Mo_poles_v_2 Mo_poleX_v_2 Mo_poleY_v_2 Mo_poleZ_v_2 Mo_pairs Mo_lesser Mo_greater Mo_isKnown Mo_least Mo_kept Mo_misfit Mo_nodal Mo_order Mo_placeOf Mo_axisX Mo_axisY Mo_axisZ Mo_axes Mo_unlikeX Mo_unlikeY Mo_unlikeZ Mo_farUp Mo_farDown Mo_axisOf]) H → va_D A (List.flatten [wMo cy hMo hMo_isThere hMo_stationX hMo_stationY hMo_stationZ hMo_told hMo_weight hMo_poleX hMo_poleY hMo_poleZ hMo_lesser hMo_greater hMo_misfit hMo_nodal hMo_order hMo_placeOf hMo_unlikeX hMo_unlikeY hMo_unlikeZ hMo_farUp hMo_farDown hMo_axisOf Mo_isThere Mo_stationX Mo_stationY Mo_stationZ Mo_told Mo_weight Mo_size Mo_extra Mo_poles_v_2 Mo_poleX_v_2 Mo_poleY_v_2 Mo_poleZ_v_2 Mo_pairs Mo_lesser Mo_greater Mo_isKnown Mo_least Mo_kept Mo_misfit Mo_nodal Mo_order Mo_placeOf Mo_axisX Mo_axisY Mo_axisZ Mo_axes Mo_unlikeX Mo_unlikeY Mo_unlikeZ Mo_farUp Mo_farDown Mo_axisOf]) → va_S A s.heap H locs → lv_has ls 7 [(0, .ref hMo), (1, .int p0), (2, .int p1), (3, .int y3_2)] → W p l e (headSpec (wA yX6_addPoles cX6_addPoles 7 none) { frames := 2, cells := 0, slots := 0, locals := 42 }).room s m #[.ref hMo, .int p0, .int p1] below meth c H locs 0 0 (MQ below (va_Qv (fun (u : Int32 × (Nat → Int32) × (Nat → Int32) × (Nat → Int32)) => Q u.1 u.2.1 u.2.2.1 u.2.2.2) (fun u t => kB D cy A (List.flatten [wMo cy hMo hMo_isThere hMo_stationX hMo_stationY hMo_stationZ hMo_told hMo_weight hMo_poleX hMo_poleY hMo_poleZ hMo_lesser hMo_greater hMo_misfit hMo_nodal hMo_order hMo_placeOf hMo_unlikeX hMo_unlikeY hMo_unlikeZ hMo_farUp hMo_farDown hMo_axisOf Mo_isThere Mo_stationX Mo_stationY Mo_stationZ Mo_told Mo_weight Mo_size Mo_extra u.1 u.2.1 u.2.2.1 u.2.2.2 Mo_pairs Mo_lesser Mo_greater Mo_isKnown Mo_least Mo_kept Mo_misfit Mo_nodal Mo_order Mo_placeOf Mo_axisX Mo_axisY Mo_axisZ Mo_axes Mo_unlikeX Mo_unlikeY Mo_unlikeZ Mo_farUp Mo_farDown Mo_axisOf]) t) A) #[.ref hMo, .int p0, .int p1] s 0 0 A) (F0 m 2 ls []) := by
    intro K2_159 hk2_159 n
    induction n with
    | zero =>
      intro y3_2 Mo_poles_v_2 Mo_poleX_v_2 Mo_poleY_v_2 Mo_poleZ_v_2 H locs ls hw
      exact hw.elim
    | succ n ih2 =>
      intro y3_2 Mo_poles_v_2 Mo_poleX_v_2 Mo_poleY_v_2 Mo_poleZ_v_2 H locs ls hw hP hD hS hl
      unfold wp_X6_addPoles_L2 at hw
      refine lv_iload_n hx hb dX6_addPoles_2 rfl (lv_at hl 3 rfl) ?_
      refine lv_iload_n hx hb dX6_addPoles_3 rfl (lv_at hl 1 rfl) ?_
      refine lv_icmp_gt (tgt := 159) hx hb dX6_addPoles_4 (by decide) (fun c2_2 => ?_) (fun c2_2 => ?_)
      · have hw := hw.1 c2_2
        exact hk2_159 y3_2 Mo_poles_v_2 Mo_poleX_v_2 Mo_poleY_v_2 Mo_poleZ_v_2 _ _ ls hw hP hD hS (lv_sub hl [0, 1, 2, 3] rfl)
      · have hw := hw.2 c2_2
        refine lv_iload_n hx hb dX6_addPoles_7 rfl (lv_at hl 1 rfl) ?_
        refine lv_ineg hx hb dX6_addPoles_8 ?_
        refine lv_topi (fun x1_2 ex1_2 => ?_)
        have hw := hw x1_2 ex1_2
        refine lv_istore (lv' := [(4, .int x1_2), (0, .ref hMo), (1, .int p0), (2, .int p1), (3, .int y3_2)]) hx hb dX6_addPoles_9 hl (by decide) rfl (fun ls hl => ?_)
        obtain ⟨n11, hw⟩ := hw
        have kl11 : ∀ (K11_153 : Int32 → Int32 → (Nat → Int32) → (Nat → Int32) → (Nat → Int32) → Prop) (hk11_153 : ∀ (y4_11 : Int32) (Mo_poles_v_11 : Int32) (Mo_poleX_v_11 : Nat → Int32) (Mo_poleY_v_11 : Nat → Int32) (Mo_poleZ_v_11 : Nat → Int32) (H : Heap) (locs : List Loc) (ls : Array Slot), K11_153 y4_11 Mo_poles_v_11 Mo_poleX_v_11 Mo_poleY_v_11 Mo_poleZ_v_11 → va_P D vwCl (List.flatten [wMo cy hMo hMo_isThere hMo_stationX hMo_stationY hMo_stationZ hMo_told hMo_weight hMo_poleX hMo_poleY hMo_poleZ hMo_lesser hMo_greater hMo_misfit hMo_nodal hMo_order hMo_placeOf hMo_unlikeX hMo_unlikeY hMo_unlikeZ hMo_farUp hMo_farDown hMo_axisOf Mo_isThere Mo_stationX Mo_stationY Mo_stationZ Mo_told Mo_weight Mo_size Mo_extra Mo_poles_v_11 Mo_poleX_v_11 Mo_poleY_v_11 Mo_poleZ_v_11 Mo_pairs Mo_lesser Mo_greater Mo_isKnown Mo_least Mo_kept Mo_misfit Mo_nodal Mo_order Mo_placeOf Mo_axisX Mo_axisY Mo_axisZ Mo_axes Mo_unlikeX Mo_unlikeY Mo_unlikeZ Mo_farUp Mo_farDown Mo_axisOf]) H → va_D A (List.flatten [wMo cy hMo hMo_isThere hMo_stationX hMo_stationY hMo_stationZ hMo_told hMo_weight hMo_poleX hMo_poleY hMo_poleZ hMo_lesser hMo_greater hMo_misfit hMo_nodal hMo_order hMo_placeOf hMo_unlikeX hMo_unlikeY hMo_unlikeZ hMo_farUp hMo_farDown hMo_axisOf Mo_isThere Mo_stationX Mo_stationY Mo_stationZ Mo_told Mo_weight Mo_size Mo_extra Mo_poles_v_11 Mo_poleX_v_11 Mo_poleY_v_11 Mo_poleZ_v_11 Mo_pairs Mo_lesser Mo_greater Mo_isKnown Mo_least Mo_kept Mo_misfit Mo_nodal Mo_order Mo_placeOf Mo_axisX Mo_axisY Mo_axisZ Mo_axes Mo_unlikeX Mo_unlikeY Mo_unlikeZ Mo_farUp Mo_farDown Mo_axisOf]) → va_S A s.heap H locs → lv_has ls 7 [(0, .ref hMo), (1, .int p0), (2, .int p1), (3, .int y3_2), (4, .int y4_11)] → W p l e (headSpec (wA yX6_addPoles cX6_addPoles 7 none) { frames := 2, cells := 0, slots := 0, locals := 42 }).room s m #[.ref hMo, .int p0, .int p1] below meth c H locs 0 0 (MQ below (va_Qv (fun (u : Int32 × (Nat → Int32) × (Nat → Int32) × (Nat → Int32)) => Q u.1 u.2.1 u.2.2.1 u.2.2.2) (fun u t => kB D cy A (List.flatten [wMo cy hMo hMo_isThere hMo_stationX hMo_stationY hMo_stationZ hMo_told hMo_weight hMo_poleX hMo_poleY hMo_poleZ hMo_lesser hMo_greater hMo_misfit hMo_nodal hMo_order hMo_placeOf hMo_unlikeX hMo_unlikeY hMo_unlikeZ hMo_farUp hMo_farDown hMo_axisOf Mo_isThere Mo_stationX Mo_stationY Mo_stationZ Mo_told Mo_weight Mo_size Mo_extra u.1 u.2.1 u.2.2.1 u.2.2.2 Mo_pairs Mo_lesser Mo_greater Mo_isKnown Mo_least Mo_kept Mo_misfit Mo_nodal Mo_order Mo_placeOf Mo_axisX Mo_axisY Mo_axisZ Mo_axes Mo_unlikeX Mo_unlikeY Mo_unlikeZ Mo_farUp Mo_farDown Mo_axisOf]) t) A) #[.ref hMo, .int p0, .int p1] s 0 0 A) (F0 m 153 ls [])) (n : Nat) (y4_11 : Int32) (Mo_poles_v_11 : Int32) (Mo_poleX_v_11 : Nat → Int32) (Mo_poleY_v_11 : Nat → Int32) (Mo_poleZ_v_11 : Nat → Int32) (H : Heap) (locs : List Loc) (ls : Array Slot), wp_X6_addPoles_L11 p0 p1 y3_2 K11_153 n y4_11 Mo_poles_v_11 Mo_poleX_v_11 Mo_poleY_v_11 Mo_poleZ_v_11 → va_P D vwCl (List.flatten [wMo cy hMo hMo_isThere hMo_stationX hMo_stationY hMo_stationZ hMo_told hMo_weight hMo_poleX hMo_poleY hMo_poleZ hMo_lesser hMo_greater hMo_misfit hMo_nodal hMo_order hMo_placeOf hMo_unlikeX hMo_unlikeY hMo_unlikeZ hMo_farUp hMo_farDown hMo_axisOf Mo_isThere Mo_stationX Mo_stationY Mo_stationZ Mo_told Mo_weight Mo_size Mo_extra Mo_poles_v_11 Mo_poleX_v_11 Mo_poleY_v_11 Mo_poleZ_v_11 Mo_pairs Mo_lesser Mo_greater Mo_isKnown Mo_least Mo_kept Mo_misfit Mo_nodal Mo_order Mo_placeOf Mo_axisX Mo_axisY Mo_axisZ Mo_axes Mo_unlikeX Mo_unlikeY Mo_unlikeZ Mo_farUp Mo_farDown Mo_axisOf]) H → va_D A (List.flatten [wMo cy hMo hMo_isThere hMo_stationX hMo_stationY hMo_stationZ hMo_told hMo_weight hMo_poleX hMo_poleY hMo_poleZ hMo_lesser hMo_greater hMo_misfit hMo_nodal hMo_order hMo_placeOf hMo_unlikeX hMo_unlikeY hMo_unlikeZ hMo_farUp hMo_farDown hMo_axisOf Mo_isThere Mo_stationX Mo_stationY Mo_stationZ Mo_told Mo_weight Mo_size Mo_extra Mo_poles_v_11 Mo_poleX_v_11 Mo_poleY_v_11 Mo_poleZ_v_11 Mo_pairs Mo_lesser Mo_greater Mo_isKnown Mo_least Mo_kept Mo_misfit Mo_nodal Mo_order Mo_placeOf Mo_axisX Mo_axisY Mo_axisZ Mo_axes Mo_unlikeX Mo_unlikeY Mo_unlikeZ Mo_farUp Mo_farDown Mo_axisOf]) → va_S A s.heap H locs → lv_has ls 7 [(0, .ref hMo), (1, .int p0), (2, .int p1), (3, .int y3_2), (4, .int y4_11)] → W p l e (headSpec (wA yX6_addPoles cX6_addPoles 7 none) { frames := 2, cells := 0, slots := 0, locals := 42 }).room s m #[.ref hMo, .int p0, .int p1] below meth c H locs 0 0 (MQ below (va_Qv (fun (u : Int32 × (Nat → Int32) × (Nat → Int32) × (Nat → Int32)) => Q u.1 u.2.1 u.2.2.1 u.2.2.2) (fun u t => kB D cy A (List.flatten [wMo cy hMo hMo_isThere hMo_stationX hMo_stationY hMo_stationZ hMo_told hMo_weight hMo_poleX hMo_poleY hMo_poleZ hMo_lesser hMo_greater hMo_misfit hMo_nodal hMo_order hMo_placeOf hMo_unlikeX hMo_unlikeY hMo_unlikeZ hMo_farUp hMo_farDown hMo_axisOf Mo_isThere Mo_stationX Mo_stationY Mo_stationZ Mo_told Mo_weight Mo_size Mo_extra u.1 u.2.1 u.2.2.1 u.2.2.2 Mo_pairs Mo_lesser Mo_greater Mo_isKnown Mo_least Mo_kept Mo_misfit Mo_nodal Mo_order Mo_placeOf Mo_axisX Mo_axisY Mo_axisZ Mo_axes Mo_unlikeX Mo_unlikeY Mo_unlikeZ Mo_farUp Mo_farDown Mo_axisOf]) t) A) #[.ref hMo, .int p0, .int p1] s 0 0 A) (F0 m 11 ls []) := by
          intro K11_153 hk11_153 n
          induction n with
          | zero =>
            intro y4_11 Mo_poles_v_11 Mo_poleX_v_11 Mo_poleY_v_11 Mo_poleZ_v_11 H locs ls hw
            exact hw.elim
          | succ n ih11 =>
            intro y4_11 Mo_poles_v_11 Mo_poleX_v_11 Mo_poleY_v_11 Mo_poleZ_v_11 H locs ls hw hP hD hS hl
            unfold wp_X6_addPoles_L11 at hw
            refine lv_iload hx hb dX6_addPoles_11 (lv_at hl 4 rfl) ?_
            refine lv_iload_n hx hb dX6_addPoles_13 rfl (lv_at hl 1 rfl) ?_
            refine lv_icmp_gt (tgt := 153) hx hb dX6_addPoles_14 (by decide) (fun c2_11 => ?_) (fun c2_11 => ?_)
            · have hw := hw.1 c2_11
              exact hk11_153 y4_11 Mo_poles_v_11 Mo_poleX_v_11 Mo_poleY_v_11 Mo_poleZ_v_11 _ _ ls hw hP hD hS (lv_sub hl [0, 1, 2, 3, 4] rfl)
            · have hw := hw.2 c2_11
              refine lv_iload_n hx hb dX6_addPoles_17 rfl (lv_at hl 1 rfl) ?_
              refine lv_ineg hx hb dX6_addPoles_18 ?_
              refine lv_topi (fun x1_11 ex1_11 => ?_)
              have hw := hw x1_11 ex1_11
              refine lv_istore (lv' := [(5, .int x1_11), (0, .ref hMo), (1, .int p0), (2, .int p1), (3, .int y3_2), (4, .int y4_11)]) hx hb dX6_addPoles_19 hl (by decide) rfl (fun ls hl => ?_)
              obtain ⟨n21, hw⟩ := hw
              have kl21 : ∀ (K21_147 : Int32 → Int32 → (Nat → Int32) → (Nat → Int32) → (Nat → Int32) → Prop) (hk21_147 : ∀ (y5_21 : Int32) (Mo_poles_v_21 : Int32) (Mo_poleX_v_21 : Nat → Int32) (Mo_poleY_v_21 : Nat → Int32) (Mo_poleZ_v_21 : Nat → Int32) (H : Heap) (locs : List Loc) (ls : Array Slot), K21_147 y5_21 Mo_poles_v_21 Mo_poleX_v_21 Mo_poleY_v_21 Mo_poleZ_v_21 → va_P D vwCl (List.flatten [wMo cy hMo hMo_isThere hMo_stationX hMo_stationY hMo_stationZ hMo_told hMo_weight hMo_poleX hMo_poleY hMo_poleZ hMo_lesser hMo_greater hMo_misfit hMo_nodal hMo_order hMo_placeOf hMo_unlikeX hMo_unlikeY hMo_unlikeZ hMo_farUp hMo_farDown hMo_axisOf Mo_isThere Mo_stationX Mo_stationY Mo_stationZ Mo_told Mo_weight Mo_size Mo_extra Mo_poles_v_21 Mo_poleX_v_21 Mo_poleY_v_21 Mo_poleZ_v_21 Mo_pairs Mo_lesser Mo_greater Mo_isKnown Mo_least Mo_kept Mo_misfit Mo_nodal Mo_order Mo_placeOf Mo_axisX Mo_axisY Mo_axisZ Mo_axes Mo_unlikeX Mo_unlikeY Mo_unlikeZ Mo_farUp Mo_farDown Mo_axisOf]) H → va_D A (List.flatten [wMo cy hMo hMo_isThere hMo_stationX hMo_stationY hMo_stationZ hMo_told hMo_weight hMo_poleX hMo_poleY hMo_poleZ hMo_lesser hMo_greater hMo_misfit hMo_nodal hMo_order hMo_placeOf hMo_unlikeX hMo_unlikeY hMo_unlikeZ hMo_farUp hMo_farDown hMo_axisOf Mo_isThere Mo_stationX Mo_stationY Mo_stationZ Mo_told Mo_weight Mo_size Mo_extra Mo_poles_v_21 Mo_poleX_v_21 Mo_poleY_v_21 Mo_poleZ_v_21 Mo_pairs Mo_lesser Mo_greater Mo_isKnown Mo_least Mo_kept Mo_misfit Mo_nodal Mo_order Mo_placeOf Mo_axisX Mo_axisY Mo_axisZ Mo_axes Mo_unlikeX Mo_unlikeY Mo_unlikeZ Mo_farUp Mo_farDown Mo_axisOf]) → va_S A s.heap H locs → lv_has ls 7 [(0, .ref hMo), (1, .int p0), (2, .int p1), (3, .int y3_2), (4, .int y4_11), (5, .int y5_21)] → W p l e (headSpec (wA yX6_addPoles cX6_addPoles 7 none) { frames := 2, cells := 0, slots := 0, locals := 42 }).room s m #[.ref hMo, .int p0, .int p1] below meth c H locs 0 0 (MQ below (va_Qv (fun (u : Int32 × (Nat → Int32) × (Nat → Int32) × (Nat → Int32)) => Q u.1 u.2.1 u.2.2.1 u.2.2.2) (fun u t => kB D cy A (List.flatten [wMo cy hMo hMo_isThere hMo_stationX hMo_stationY hMo_stationZ hMo_told hMo_weight hMo_poleX hMo_poleY hMo_poleZ hMo_lesser hMo_greater hMo_misfit hMo_nodal hMo_order hMo_placeOf hMo_unlikeX hMo_unlikeY hMo_unlikeZ hMo_farUp hMo_farDown hMo_axisOf Mo_isThere Mo_stationX Mo_stationY Mo_stationZ Mo_told Mo_weight Mo_size Mo_extra u.1 u.2.1 u.2.2.1 u.2.2.2 Mo_pairs Mo_lesser Mo_greater Mo_isKnown Mo_least Mo_kept Mo_misfit Mo_nodal Mo_order Mo_placeOf Mo_axisX Mo_axisY Mo_axisZ Mo_axes Mo_unlikeX Mo_unlikeY Mo_unlikeZ Mo_farUp Mo_farDown Mo_axisOf]) t) A) #[.ref hMo, .int p0, .int p1] s 0 0 A) (F0 m 147 ls [])) (n : Nat) (y5_21 : Int32) (Mo_poles_v_21 : Int32) (Mo_poleX_v_21 : Nat → Int32) (Mo_poleY_v_21 : Nat → Int32) (Mo_poleZ_v_21 : Nat → Int32) (H : Heap) (locs : List Loc) (ls : Array Slot), wp_X6_addPoles_L21 p0 p1 y3_2 y4_11 K21_147 n y5_21 Mo_poles_v_21 Mo_poleX_v_21 Mo_poleY_v_21 Mo_poleZ_v_21 → va_P D vwCl (List.flatten [wMo cy hMo hMo_isThere hMo_stationX hMo_stationY hMo_stationZ hMo_told hMo_weight hMo_poleX hMo_poleY hMo_poleZ hMo_lesser hMo_greater hMo_misfit hMo_nodal hMo_order hMo_placeOf hMo_unlikeX hMo_unlikeY hMo_unlikeZ hMo_farUp hMo_farDown hMo_axisOf Mo_isThere Mo_stationX Mo_stationY Mo_stationZ Mo_told Mo_weight Mo_size Mo_extra Mo_poles_v_21 Mo_poleX_v_21 Mo_poleY_v_21 Mo_poleZ_v_21 Mo_pairs Mo_lesser Mo_greater Mo_isKnown Mo_least Mo_kept Mo_misfit Mo_nodal Mo_order Mo_placeOf Mo_axisX Mo_axisY Mo_axisZ Mo_axes Mo_unlikeX Mo_unlikeY Mo_unlikeZ Mo_farUp Mo_farDown Mo_axisOf]) H → va_D A (List.flatten [wMo cy hMo hMo_isThere hMo_stationX hMo_stationY hMo_stationZ hMo_told hMo_weight hMo_poleX hMo_poleY hMo_poleZ hMo_lesser hMo_greater hMo_misfit hMo_nodal hMo_order hMo_placeOf hMo_unlikeX hMo_unlikeY hMo_unlikeZ hMo_farUp hMo_farDown hMo_axisOf Mo_isThere Mo_stationX Mo_stationY Mo_stationZ Mo_told Mo_weight Mo_size Mo_extra Mo_poles_v_21 Mo_poleX_v_21 Mo_poleY_v_21 Mo_poleZ_v_21 Mo_pairs Mo_lesser Mo_greater Mo_isKnown Mo_least Mo_kept Mo_misfit Mo_nodal Mo_order Mo_placeOf Mo_axisX Mo_axisY Mo_axisZ Mo_axes Mo_unlikeX Mo_unlikeY Mo_unlikeZ Mo_farUp Mo_farDown Mo_axisOf]) → va_S A s.heap H locs → lv_has ls 7 [(0, .ref hMo), (1, .int p0), (2, .int p1), (3, .int y3_2), (4, .int y4_11), (5, .int y5_21)] → W p l e (headSpec (wA yX6_addPoles cX6_addPoles 7 none) { frames := 2, cells := 0, slots := 0, locals := 42 }).room s m #[.ref hMo, .int p0, .int p1] below meth c H locs 0 0 (MQ below (va_Qv (fun (u : Int32 × (Nat → Int32) × (Nat → Int32) × (Nat → Int32)) => Q u.1 u.2.1 u.2.2.1 u.2.2.2) (fun u t => kB D cy A (List.flatten [wMo cy hMo hMo_isThere hMo_stationX hMo_stationY hMo_stationZ hMo_told hMo_weight hMo_poleX hMo_poleY hMo_poleZ hMo_lesser hMo_greater hMo_misfit hMo_nodal hMo_order hMo_placeOf hMo_unlikeX hMo_unlikeY hMo_unlikeZ hMo_farUp hMo_farDown hMo_axisOf Mo_isThere Mo_stationX Mo_stationY Mo_stationZ Mo_told Mo_weight Mo_size Mo_extra u.1 u.2.1 u.2.2.1 u.2.2.2 Mo_pairs Mo_lesser Mo_greater Mo_isKnown Mo_least Mo_kept Mo_misfit Mo_nodal Mo_order Mo_placeOf Mo_axisX Mo_axisY Mo_axisZ Mo_axes Mo_unlikeX Mo_unlikeY Mo_unlikeZ Mo_farUp Mo_farDown Mo_axisOf]) t) A) #[.ref hMo, .int p0, .int p1] s 0 0 A) (F0 m 21 ls []) := by
                intro K21_147 hk21_147 n
                induction n with
                | zero =>
                  intro y5_21 Mo_poles_v_21 Mo_poleX_v_21 Mo_poleY_v_21 Mo_poleZ_v_21 H locs ls hw
                  exact hw.elim
                | succ n ih21 =>
                  intro y5_21 Mo_poles_v_21 Mo_poleX_v_21 Mo_poleY_v_21 Mo_poleZ_v_21 H locs ls hw hP hD hS hl
                  unfold wp_X6_addPoles_L21 at hw
                  refine lv_iload hx hb dX6_addPoles_21 (lv_at hl 5 rfl) ?_
                  refine lv_iload_n hx hb dX6_addPoles_23 rfl (lv_at hl 1 rfl) ?_
                  refine lv_icmp_gt (tgt := 147) hx hb dX6_addPoles_24 (by decide) (fun c11_21 => ?_) (fun c11_21 => ?_)
                  · have hw := hw.1 c11_21
                    exact hk21_147 y5_21 Mo_poles_v_21 Mo_poleX_v_21 Mo_poleY_v_21 Mo_poleZ_v_21 _ _ ls hw hP hD hS (lv_sub hl [0, 1, 2, 3, 4, 5] rfl)
                  · have hw := hw.2 c11_21
                    refine lv_iload_n hx hb dX6_addPoles_27 rfl (lv_at hl 3 rfl) ?_
                    refine lv_iload hx hb dX6_addPoles_28 (lv_at hl 4 rfl) ?_
                    refine kc_i (va_runS (As := [.int y3_2, .int y4_11]) (rest := []) ⟨hx, hb, hml, hown, hts⟩ (k_X6_greaterSize l D cy y3_2 y4_11 _ _ hw) (va_cwS 2 hts (gS mw_8_18 mw_8_19 mw_1_5 mw_8_20) rfl rfl rfl (by decide +kernel) ⟨Nat.le_of_ble_eq_true rfl, Nat.le_of_ble_eq_true rfl⟩) (fPre hN hK hP hD [] rfl rfl _) rfl rfl hl.1 rfl (lv_room (Nat.le_of_ble_eq_true rfl)) dX6_addPoles_30 ⟨Nat.zero_le _, Nat.zero_le _⟩) (fun r1_21 hw => ?_)
                    refine lv_iload hx hb dX6_addPoles_33 (lv_at hl 5 rfl) ?_
                    refine kc_i (va_runS (As := [.int r1_21, .int y5_21]) (rest := []) ⟨hx, hb, hml, hown, hts⟩ (k_X6_greaterSize l D cy r1_21 y5_21 _ _ hw) (va_cwS 2 hts (gS mw_8_18 mw_8_19 mw_1_5 mw_8_20) rfl rfl rfl (by decide +kernel) ⟨Nat.le_of_ble_eq_true rfl, Nat.le_of_ble_eq_true rfl⟩) (fPre hN hK hP hD [] rfl rfl _) rfl rfl hl.1 rfl (lv_room (Nat.le_of_ble_eq_true rfl)) dX6_addPoles_35 ⟨Nat.zero_le _, Nat.zero_le _⟩) (fun r2_21 hw => ?_)
                    refine lv_iload_n hx hb dX6_addPoles_38 rfl (lv_at hl 1 rfl) ?_
                    refine lv_icmp_ne (tgt := 65) hx hb dX6_addPoles_39 (by decide) (fun c10_21 => ?_) (fun c10_21 => ?_)
                    · have hw := hw.2 c10_21
                      refine lv_iconst (v := 0) hx hb dX6_addPoles_65 (by decide) ?_
                      refine lv_istore (lv' := [(6, .int 0), (0, .ref hMo), (1, .int p0), (2, .int p1), (3, .int y3_2), (4, .int y4_11), (5, .int y5_21)]) hx hb dX6_addPoles_66 hl (by decide) rfl (fun ls hl => ?_)
                      refine lv_iload hx hb dX6_addPoles_68 (lv_at hl 0 rfl) ?_
                      refine lv_if_eq (tgt := 141) hx hb dX6_addPoles_70 (by decide) (fun _ => ?_) (fun c9 => absurd c9 (by decide))
                      refine lv_iinc (v := y5_21 + 1) (lv' := [(5, .int (y5_21 + 1)), (6, .int 0), (0, .ref hMo), (1, .int p0), (2, .int p1), (3, .int y3_2), (4, .int y4_11)]) hx hb dX6_addPoles_141 hl (k := 6) rfl rfl (by decide) rfl (fun ls hl => ?_)
                      refine lv_goto (tgt := 21) hx hb dX6_addPoles_144 (by decide) ?_
                      exact ih21 (y5_21 + 1) Mo_poles_v_21 Mo_poleX_v_21 Mo_poleY_v_21 Mo_poleZ_v_21 _ _ ls hw hP hD hS (lv_sub hl [2, 3, 4, 5, 6, 0] rfl)
                    · have hw := hw.1 c10_21
                      refine lv_iload_n hx hb dX6_addPoles_42 rfl (lv_at hl 3 rfl) ?_
                      refine lv_iload_n hx hb dX6_addPoles_43 rfl (lv_at hl 3 rfl) ?_
                      refine lv_imul hx hb dX6_addPoles_44 ?_
                      refine lv_iload hx hb dX6_addPoles_45 (lv_at hl 4 rfl) ?_
                      refine lv_iload hx hb dX6_addPoles_47 (lv_at hl 4 rfl) ?_
                      refine lv_imul hx hb dX6_addPoles_49 ?_
                      refine lv_iadd hx hb dX6_addPoles_50 ?_
                      refine lv_iload hx hb dX6_addPoles_51 (lv_at hl 5 rfl) ?_
                      refine lv_iload hx hb dX6_addPoles_53 (lv_at hl 5 rfl) ?_
                      refine lv_imul hx hb dX6_addPoles_55 ?_
                      refine lv_iadd hx hb dX6_addPoles_56 ?_
                      refine lv_iload_n hx hb dX6_addPoles_57 rfl (lv_at hl 2 rfl) ?_
                      refine lv_icmp_ne (tgt := 65) hx hb dX6_addPoles_58 (by decide) (fun c9_21 => ?_) (fun c9_21 => ?_)
                      · have hw := hw.2 c9_21
                        refine lv_iconst (v := 0) hx hb dX6_addPoles_65 (by decide) ?_
                        refine lv_istore (lv' := [(6, .int 0), (0, .ref hMo), (1, .int p0), (2, .int p1), (3, .int y3_2), (4, .int y4_11), (5, .int y5_21)]) hx hb dX6_addPoles_66 hl (by decide) rfl (fun ls hl => ?_)
                        refine lv_iload hx hb dX6_addPoles_68 (lv_at hl 0 rfl) ?_
                        refine lv_if_eq (tgt := 141) hx hb dX6_addPoles_70 (by decide) (fun _ => ?_) (fun c9 => absurd c9 (by decide))
                        refine lv_iinc (v := y5_21 + 1) (lv' := [(5, .int (y5_21 + 1)), (6, .int 0), (0, .ref hMo), (1, .int p0), (2, .int p1), (3, .int y3_2), (4, .int y4_11)]) hx hb dX6_addPoles_141 hl (k := 6) rfl rfl (by decide) rfl (fun ls hl => ?_)
                        refine lv_goto (tgt := 21) hx hb dX6_addPoles_144 (by decide) ?_
                        exact ih21 (y5_21 + 1) Mo_poles_v_21 Mo_poleX_v_21 Mo_poleY_v_21 Mo_poleZ_v_21 _ _ ls hw hP hD hS (lv_sub hl [2, 3, 4, 5, 6, 0] rfl)
                      · have hw := hw.1 c9_21
                        refine lv_iconst (v := 1) hx hb dX6_addPoles_61 (by decide) ?_
                        refine lv_goto (tgt := 66) hx hb dX6_addPoles_62 (by decide) ?_
                        refine lv_istore (lv' := [(6, .int 1), (0, .ref hMo), (1, .int p0), (2, .int p1), (3, .int y3_2), (4, .int y4_11), (5, .int y5_21)]) hx hb dX6_addPoles_66 hl (by decide) rfl (fun ls hl => ?_)
                        refine lv_iload hx hb dX6_addPoles_68 (lv_at hl 0 rfl) ?_
                        refine lv_if_eq (tgt := 141) hx hb dX6_addPoles_70 (by decide) (fun c9 => absurd c9 (by decide)) (fun _ => ?_)
                        refine lv_iload_n hx hb dX6_addPoles_73 rfl (lv_at hl 4 rfl) ?_
                        refine lv_iload hx hb dX6_addPoles_74 (lv_at hl 5 rfl) ?_
                        refine lv_iload hx hb dX6_addPoles_76 (lv_at hl 6 rfl) ?_
                        refine kc_i (va_runS (As := [.int y3_2, .int y4_11, .int y5_21]) (rest := []) ⟨hx, hb, hml, hown, hts⟩ (k_X6_leading l D cy y3_2 y4_11 y5_21 _ _ hw) (va_cwS 3 hts (gS mw_8_21 mw_8_22 mw_1_5 mw_8_23) rfl rfl rfl (by decide +kernel) ⟨Nat.le_of_ble_eq_true rfl, Nat.le_of_ble_eq_true rfl⟩) (fPre hN hK hP hD [] rfl rfl _) rfl rfl hl.1 rfl (lv_room (Nat.le_of_ble_eq_true rfl)) dX6_addPoles_78 ⟨Nat.zero_le _, Nat.zero_le _⟩) (fun r3_21 hw => ?_)
                        refine lv_if_le (tgt := 141) hx hb dX6_addPoles_81 (by decide) (fun c8_21 => ?_) (fun c8_21 => ?_)
                        · have hw := hw.1 c8_21
                          refine lv_iinc (v := y5_21 + 1) (lv' := [(5, .int (y5_21 + 1)), (6, .int 1), (0, .ref hMo), (1, .int p0), (2, .int p1), (3, .int y3_2), (4, .int y4_11)]) hx hb dX6_addPoles_141 hl (k := 6) rfl rfl (by decide) rfl (fun ls hl => ?_)
                          refine lv_goto (tgt := 21) hx hb dX6_addPoles_144 (by decide) ?_
                          exact ih21 (y5_21 + 1) Mo_poles_v_21 Mo_poleX_v_21 Mo_poleY_v_21 Mo_poleZ_v_21 _ _ ls hw hP hD hS (lv_sub hl [2, 3, 4, 5, 6, 0] rfl)
                        · have hw := hw.2 c8_21
                          refine lv_iload_n hx hb dX6_addPoles_84 rfl (lv_at hl 4 rfl) ?_
                          refine lv_iload hx hb dX6_addPoles_85 (lv_at hl 5 rfl) ?_
                          refine kc_i (va_runS (As := [.int y3_2, .int y4_11]) (rest := []) ⟨hx, hb, hml, hown, hts⟩ (k_X6_common l D cy y3_2 y4_11 _ _ hw) (va_cwS 2 hts (gS mw_9_3 mw_9_4 mw_1_5 mw_9_5) rfl rfl rfl (by decide +kernel) ⟨Nat.le_of_ble_eq_true rfl, Nat.le_of_ble_eq_true rfl⟩) (fPre hN hK hP hD [] rfl rfl _) rfl rfl hl.1 rfl (lv_room (Nat.le_of_ble_eq_true rfl)) dX6_addPoles_87 ⟨Nat.zero_le _, Nat.zero_le _⟩) (fun r4_21 hw => ?_)
                          refine lv_iload hx hb dX6_addPoles_90 (lv_at hl 6 rfl) ?_
                          refine kc_i (va_runS (As := [.int r4_21, .int y5_21]) (rest := []) ⟨hx, hb, hml, hown, hts⟩ (k_X6_common l D cy r4_21 y5_21 _ _ hw) (va_cwS 2 hts (gS mw_9_3 mw_9_4 mw_1_5 mw_9_5) rfl rfl rfl (by decide +kernel) ⟨Nat.le_of_ble_eq_true rfl, Nat.le_of_ble_eq_true rfl⟩) (fPre hN hK hP hD [] rfl rfl _) rfl rfl hl.1 rfl (lv_room (Nat.le_of_ble_eq_true rfl)) dX6_addPoles_92 ⟨Nat.zero_le _, Nat.zero_le _⟩) (fun r5_21 hw => ?_)
                          refine lv_iconst (v := 1) hx hb dX6_addPoles_95 (by decide) ?_
                          refine lv_icmp_ne (tgt := 141) hx hb dX6_addPoles_96 (by decide) (fun c7_21 => ?_) (fun c7_21 => ?_)
                          · have hw := hw.2 c7_21
                            refine lv_iinc (v := y5_21 + 1) (lv' := [(5, .int (y5_21 + 1)), (6, .int 1), (0, .ref hMo), (1, .int p0), (2, .int p1), (3, .int y3_2), (4, .int y4_11)]) hx hb dX6_addPoles_141 hl (k := 6) rfl rfl (by decide) rfl (fun ls hl => ?_)
                            refine lv_goto (tgt := 21) hx hb dX6_addPoles_144 (by decide) ?_
                            exact ih21 (y5_21 + 1) Mo_poles_v_21 Mo_poleX_v_21 Mo_poleY_v_21 Mo_poleZ_v_21 _ _ ls hw hP hD hS (lv_sub hl [2, 3, 4, 5, 6, 0] rfl)
                          · have hw := hw.1 c7_21
                            refine lv_aload_n hx hb dX6_addPoles_99 rfl (lv_at hl 1 rfl) ?_
                            refine va_get (D := D) (ci := 6) (v := .ref hMo_poleX) (C := RX6) (T := TX6) (N := 32) hx hb hts inlX6 hown hK hP 0 rfl rfl 9 (by decide) (hts (.fieldLink RX6 33 "SquarePlanesModel" "poleX" "[I") mw_7_15) (fun _ h9 => h9) rfl dX6_addPoles_100 ?_
                            refine lv_aload_n hx hb dX6_addPoles_103 rfl (lv_at hl 1 rfl) ?_
                            refine va_get (D := D) (ci := 6) (v := .int Mo_poles_v_21) (C := RX6) (T := TX6) (N := 32) hx hb hts inlX6 hown hK hP 0 rfl rfl 8 (by decide) (hts (.fieldLink RX6 123 "SquarePlanesModel" "poles" "I") mw_8_11) (fun _ h9 => h9) rfl dX6_addPoles_104 ?_
                            refine lv_iload_n hx hb dX6_addPoles_107 rfl (lv_at hl 4 rfl) ?_
                            refine va_iast hx hb hK hP hD hS 7 0 rfl rfl hw.1 dX6_addPoles_108 (fun H locs hP hD hS => ?_)
                            have hw := hw.2
                            have hP : va_P D vwCl (List.flatten [wMo cy hMo hMo_isThere hMo_stationX hMo_stationY hMo_stationZ hMo_told hMo_weight hMo_poleX hMo_poleY hMo_poleZ hMo_lesser hMo_greater hMo_misfit hMo_nodal hMo_order hMo_placeOf hMo_unlikeX hMo_unlikeY hMo_unlikeZ hMo_farUp hMo_farDown hMo_axisOf Mo_isThere Mo_stationX Mo_stationY Mo_stationZ Mo_told Mo_weight Mo_size Mo_extra Mo_poles_v_21 (upd Mo_poleX_v_21 Mo_poles_v_21.toNatClampNeg y3_2) Mo_poleY_v_21 Mo_poleZ_v_21 Mo_pairs Mo_lesser Mo_greater Mo_isKnown Mo_least Mo_kept Mo_misfit Mo_nodal Mo_order Mo_placeOf Mo_axisX Mo_axisY Mo_axisZ Mo_axes Mo_unlikeX Mo_unlikeY Mo_unlikeZ Mo_farUp Mo_farDown Mo_axisOf]) H := hP
                            have hD : va_D A (List.flatten [wMo cy hMo hMo_isThere hMo_stationX hMo_stationY hMo_stationZ hMo_told hMo_weight hMo_poleX hMo_poleY hMo_poleZ hMo_lesser hMo_greater hMo_misfit hMo_nodal hMo_order hMo_placeOf hMo_unlikeX hMo_unlikeY hMo_unlikeZ hMo_farUp hMo_farDown hMo_axisOf Mo_isThere Mo_stationX Mo_stationY Mo_stationZ Mo_told Mo_weight Mo_size Mo_extra Mo_poles_v_21 (upd Mo_poleX_v_21 Mo_poles_v_21.toNatClampNeg y3_2) Mo_poleY_v_21 Mo_poleZ_v_21 Mo_pairs Mo_lesser Mo_greater Mo_isKnown Mo_least Mo_kept Mo_misfit Mo_nodal Mo_order Mo_placeOf Mo_axisX Mo_axisY Mo_axisZ Mo_axes Mo_unlikeX Mo_unlikeY Mo_unlikeZ Mo_farUp Mo_farDown Mo_axisOf]) := hD
                            refine lv_aload_n hx hb dX6_addPoles_109 rfl (lv_at hl 1 rfl) ?_
                            refine va_get (D := D) (ci := 6) (v := .ref hMo_poleY) (C := RX6) (T := TX6) (N := 32) hx hb hts inlX6 hown hK hP 0 rfl rfl 10 (by decide) (hts (.fieldLink RX6 36 "SquarePlanesModel" "poleY" "[I") mw_7_16) (fun _ h9 => h9) rfl dX6_addPoles_110 ?_
                            refine lv_aload_n hx hb dX6_addPoles_113 rfl (lv_at hl 1 rfl) ?_
                            refine va_get (D := D) (ci := 6) (v := .int Mo_poles_v_21) (C := RX6) (T := TX6) (N := 32) hx hb hts inlX6 hown hK hP 0 rfl rfl 8 (by decide) (hts (.fieldLink RX6 123 "SquarePlanesModel" "poles" "I") mw_8_11) (fun _ h9 => h9) rfl dX6_addPoles_114 ?_
                            refine lv_iload hx hb dX6_addPoles_117 (lv_at hl 5 rfl) ?_
                            refine va_iast hx hb hK hP hD hS 8 0 rfl rfl hw.1 dX6_addPoles_119 (fun H locs hP hD hS => ?_)
                            have hw := hw.2
                            have hP : va_P D vwCl (List.flatten [wMo cy hMo hMo_isThere hMo_stationX hMo_stationY hMo_stationZ hMo_told hMo_weight hMo_poleX hMo_poleY hMo_poleZ hMo_lesser hMo_greater hMo_misfit hMo_nodal hMo_order hMo_placeOf hMo_unlikeX hMo_unlikeY hMo_unlikeZ hMo_farUp hMo_farDown hMo_axisOf Mo_isThere Mo_stationX Mo_stationY Mo_stationZ Mo_told Mo_weight Mo_size Mo_extra Mo_poles_v_21 (upd Mo_poleX_v_21 Mo_poles_v_21.toNatClampNeg y3_2) (upd Mo_poleY_v_21 Mo_poles_v_21.toNatClampNeg y4_11) Mo_poleZ_v_21 Mo_pairs Mo_lesser Mo_greater Mo_isKnown Mo_least Mo_kept Mo_misfit Mo_nodal Mo_order Mo_placeOf Mo_axisX Mo_axisY Mo_axisZ Mo_axes Mo_unlikeX Mo_unlikeY Mo_unlikeZ Mo_farUp Mo_farDown Mo_axisOf]) H := hP
                            have hD : va_D A (List.flatten [wMo cy hMo hMo_isThere hMo_stationX hMo_stationY hMo_stationZ hMo_told hMo_weight hMo_poleX hMo_poleY hMo_poleZ hMo_lesser hMo_greater hMo_misfit hMo_nodal hMo_order hMo_placeOf hMo_unlikeX hMo_unlikeY hMo_unlikeZ hMo_farUp hMo_farDown hMo_axisOf Mo_isThere Mo_stationX Mo_stationY Mo_stationZ Mo_told Mo_weight Mo_size Mo_extra Mo_poles_v_21 (upd Mo_poleX_v_21 Mo_poles_v_21.toNatClampNeg y3_2) (upd Mo_poleY_v_21 Mo_poles_v_21.toNatClampNeg y4_11) Mo_poleZ_v_21 Mo_pairs Mo_lesser Mo_greater Mo_isKnown Mo_least Mo_kept Mo_misfit Mo_nodal Mo_order Mo_placeOf Mo_axisX Mo_axisY Mo_axisZ Mo_axes Mo_unlikeX Mo_unlikeY Mo_unlikeZ Mo_farUp Mo_farDown Mo_axisOf]) := hD
                            refine lv_aload_n hx hb dX6_addPoles_120 rfl (lv_at hl 1 rfl) ?_
                            refine va_get (D := D) (ci := 6) (v := .ref hMo_poleZ) (C := RX6) (T := TX6) (N := 32) hx hb hts inlX6 hown hK hP 0 rfl rfl 11 (by decide) (hts (.fieldLink RX6 39 "SquarePlanesModel" "poleZ" "[I") mw_7_17) (fun _ h9 => h9) rfl dX6_addPoles_121 ?_
                            refine lv_aload_n hx hb dX6_addPoles_124 rfl (lv_at hl 1 rfl) ?_
                            refine va_get (D := D) (ci := 6) (v := .int Mo_poles_v_21) (C := RX6) (T := TX6) (N := 32) hx hb hts inlX6 hown hK hP 0 rfl rfl 8 (by decide) (hts (.fieldLink RX6 123 "SquarePlanesModel" "poles" "I") mw_8_11) (fun _ h9 => h9) rfl dX6_addPoles_125 ?_
                            refine lv_iload hx hb dX6_addPoles_128 (lv_at hl 6 rfl) ?_
                            refine va_iast hx hb hK hP hD hS 9 0 rfl rfl hw.1 dX6_addPoles_130 (fun H locs hP hD hS => ?_)
                            have hw := hw.2
                            have hP : va_P D vwCl (List.flatten [wMo cy hMo hMo_isThere hMo_stationX hMo_stationY hMo_stationZ hMo_told hMo_weight hMo_poleX hMo_poleY hMo_poleZ hMo_lesser hMo_greater hMo_misfit hMo_nodal hMo_order hMo_placeOf hMo_unlikeX hMo_unlikeY hMo_unlikeZ hMo_farUp hMo_farDown hMo_axisOf Mo_isThere Mo_stationX Mo_stationY Mo_stationZ Mo_told Mo_weight Mo_size Mo_extra Mo_poles_v_21 (upd Mo_poleX_v_21 Mo_poles_v_21.toNatClampNeg y3_2) (upd Mo_poleY_v_21 Mo_poles_v_21.toNatClampNeg y4_11) (upd Mo_poleZ_v_21 Mo_poles_v_21.toNatClampNeg y5_21) Mo_pairs Mo_lesser Mo_greater Mo_isKnown Mo_least Mo_kept Mo_misfit Mo_nodal Mo_order Mo_placeOf Mo_axisX Mo_axisY Mo_axisZ Mo_axes Mo_unlikeX Mo_unlikeY Mo_unlikeZ Mo_farUp Mo_farDown Mo_axisOf]) H := hP
                            have hD : va_D A (List.flatten [wMo cy hMo hMo_isThere hMo_stationX hMo_stationY hMo_stationZ hMo_told hMo_weight hMo_poleX hMo_poleY hMo_poleZ hMo_lesser hMo_greater hMo_misfit hMo_nodal hMo_order hMo_placeOf hMo_unlikeX hMo_unlikeY hMo_unlikeZ hMo_farUp hMo_farDown hMo_axisOf Mo_isThere Mo_stationX Mo_stationY Mo_stationZ Mo_told Mo_weight Mo_size Mo_extra Mo_poles_v_21 (upd Mo_poleX_v_21 Mo_poles_v_21.toNatClampNeg y3_2) (upd Mo_poleY_v_21 Mo_poles_v_21.toNatClampNeg y4_11) (upd Mo_poleZ_v_21 Mo_poles_v_21.toNatClampNeg y5_21) Mo_pairs Mo_lesser Mo_greater Mo_isKnown Mo_least Mo_kept Mo_misfit Mo_nodal Mo_order Mo_placeOf Mo_axisX Mo_axisY Mo_axisZ Mo_axes Mo_unlikeX Mo_unlikeY Mo_unlikeZ Mo_farUp Mo_farDown Mo_axisOf]) := hD
                            refine lv_aload_n hx hb dX6_addPoles_131 rfl (lv_at hl 1 rfl) ?_
                            refine lv_dup hx hb dX6_addPoles_132 rfl ?_
                            refine va_get (D := D) (ci := 6) (v := .int Mo_poles_v_21) (C := RX6) (T := TX6) (N := 32) hx hb hts inlX6 hown hK hP 0 rfl rfl 8 (by decide) (hts (.fieldLink RX6 123 "SquarePlanesModel" "poles" "I") mw_8_11) (fun _ h9 => h9) rfl dX6_addPoles_133 ?_
                            refine lv_iconst (v := 1) hx hb dX6_addPoles_136 (by decide) ?_
                            refine lv_iadd hx hb dX6_addPoles_137 ?_
                            refine lv_topi (fun x6_21 ex6_21 => ?_)
                            have hw := hw x6_21 ex6_21
                            refine va_put (D := D) (ci := 6) (v := .int x6_21) (ty := tyX6 8) (C := RX6) (T := TX6) (N := 32) hx hb hts inlX6 tyX6 tyX6_ok nmX6 hown hK hP hD hS 0 rfl rfl 8 (by decide) (hts (.fieldLink RX6 123 "SquarePlanesModel" "poles" "I") mw_8_11) (fun _ h9 => h9) rfl (tyX6_ok 8 (by decide)) rfl rfl (Nat.le_of_ble_eq_true rfl) dX6_addPoles_138 (fun H locs hP hD hS => ?_)
                            have hP : va_P D vwCl (List.flatten [wMo cy hMo hMo_isThere hMo_stationX hMo_stationY hMo_stationZ hMo_told hMo_weight hMo_poleX hMo_poleY hMo_poleZ hMo_lesser hMo_greater hMo_misfit hMo_nodal hMo_order hMo_placeOf hMo_unlikeX hMo_unlikeY hMo_unlikeZ hMo_farUp hMo_farDown hMo_axisOf Mo_isThere Mo_stationX Mo_stationY Mo_stationZ Mo_told Mo_weight Mo_size Mo_extra x6_21 (upd Mo_poleX_v_21 Mo_poles_v_21.toNatClampNeg y3_2) (upd Mo_poleY_v_21 Mo_poles_v_21.toNatClampNeg y4_11) (upd Mo_poleZ_v_21 Mo_poles_v_21.toNatClampNeg y5_21) Mo_pairs Mo_lesser Mo_greater Mo_isKnown Mo_least Mo_kept Mo_misfit Mo_nodal Mo_order Mo_placeOf Mo_axisX Mo_axisY Mo_axisZ Mo_axes Mo_unlikeX Mo_unlikeY Mo_unlikeZ Mo_farUp Mo_farDown Mo_axisOf]) H := hP
                            have hD : va_D A (List.flatten [wMo cy hMo hMo_isThere hMo_stationX hMo_stationY hMo_stationZ hMo_told hMo_weight hMo_poleX hMo_poleY hMo_poleZ hMo_lesser hMo_greater hMo_misfit hMo_nodal hMo_order hMo_placeOf hMo_unlikeX hMo_unlikeY hMo_unlikeZ hMo_farUp hMo_farDown hMo_axisOf Mo_isThere Mo_stationX Mo_stationY Mo_stationZ Mo_told Mo_weight Mo_size Mo_extra x6_21 (upd Mo_poleX_v_21 Mo_poles_v_21.toNatClampNeg y3_2) (upd Mo_poleY_v_21 Mo_poles_v_21.toNatClampNeg y4_11) (upd Mo_poleZ_v_21 Mo_poles_v_21.toNatClampNeg y5_21) Mo_pairs Mo_lesser Mo_greater Mo_isKnown Mo_least Mo_kept Mo_misfit Mo_nodal Mo_order Mo_placeOf Mo_axisX Mo_axisY Mo_axisZ Mo_axes Mo_unlikeX Mo_unlikeY Mo_unlikeZ Mo_farUp Mo_farDown Mo_axisOf]) := hD
                            refine lv_iinc (v := y5_21 + 1) (lv' := [(5, .int (y5_21 + 1)), (6, .int 1), (0, .ref hMo), (1, .int p0), (2, .int p1), (3, .int y3_2), (4, .int y4_11)]) hx hb dX6_addPoles_141 hl (k := 6) rfl rfl (by decide) rfl (fun ls hl => ?_)
                            refine lv_goto (tgt := 21) hx hb dX6_addPoles_144 (by decide) ?_
                            exact ih21 (y5_21 + 1) x6_21 (upd Mo_poleX_v_21 Mo_poles_v_21.toNatClampNeg y3_2) (upd Mo_poleY_v_21 Mo_poles_v_21.toNatClampNeg y4_11) (upd Mo_poleZ_v_21 Mo_poles_v_21.toNatClampNeg y5_21) _ _ ls hw hP hD hS (lv_sub hl [2, 3, 4, 5, 6, 0] rfl)
              refine kl21 _ ?_ n21 x1_11 Mo_poles_v_11 Mo_poleX_v_11 Mo_poleY_v_11 Mo_poleZ_v_11 _ _ ls hw hP hD hS (lv_sub hl [1, 2, 3, 4, 5, 0] rfl)
              · intro y5_21 Mo_poles_v_21 Mo_poleX_v_21 Mo_poleY_v_21 Mo_poleZ_v_21 H locs ls hw hP hD hS hl
                refine lv_iinc (v := y4_11 + 1) (lv' := [(4, .int (y4_11 + 1)), (0, .ref hMo), (1, .int p0), (2, .int p1), (3, .int y3_2), (5, .int y5_21)]) hx hb dX6_addPoles_147 hl (k := 4) rfl rfl (by decide) rfl (fun ls hl => ?_)
                refine lv_goto (tgt := 11) hx hb dX6_addPoles_150 (by decide) ?_
                exact ih11 (y4_11 + 1) Mo_poles_v_21 Mo_poleX_v_21 Mo_poleY_v_21 Mo_poleZ_v_21 _ _ ls hw hP hD hS (lv_sub hl [1, 2, 3, 4, 0] rfl)
        refine kl11 _ ?_ n11 x1_2 Mo_poles_v_2 Mo_poleX_v_2 Mo_poleY_v_2 Mo_poleZ_v_2 _ _ ls hw hP hD hS (lv_sub hl [1, 2, 3, 4, 0] rfl)
        · intro y4_11 Mo_poles_v_11 Mo_poleX_v_11 Mo_poleY_v_11 Mo_poleZ_v_11 H locs ls hw hP hD hS hl
          refine lv_iinc (v := y3_2 + 1) (lv' := [(3, .int (y3_2 + 1)), (0, .ref hMo), (1, .int p0), (2, .int p1), (4, .int y4_11)]) hx hb dX6_addPoles_153 hl (k := 3) rfl rfl (by decide) rfl (fun ls hl => ?_)
          refine lv_goto (tgt := 2) hx hb dX6_addPoles_156 (by decide) ?_
          exact ih2 (y3_2 + 1) Mo_poles_v_11 Mo_poleX_v_11 Mo_poleY_v_11 Mo_poleZ_v_11 _ _ ls hw hP hD hS (lv_sub hl [1, 2, 3, 0] rfl)
  refine kl2 _ ?_ n2 0 Mo_poles Mo_poleX Mo_poleY Mo_poleZ _ _ ls hw hP hD hS (lv_sub hl [1, 2, 3, 0] rfl)
  · intro y3_2 Mo_poles_v_2 Mo_poleX_v_2 Mo_poleY_v_2 Mo_poleZ_v_2 H locs ls hw hP hD hS hl
    exact W.vret hx hb hr (fun t ht hW => ⟨⟨(Mo_poles_v_2, Mo_poleX_v_2, Mo_poleY_v_2, Mo_poleZ_v_2), rfl, hw, ⟨by rw [ht]; exact hP, va_K.moved hW.alike hK, hD⟩⟩, hS.F ht⟩) hS.2.2 dX6_addPoles_159
set_option maxHeartbeats 4000000 in
set_option maxRecDepth 100000 in
theorem k_X6_pole (l : Launch) (D : va_G) (cy : Nat → ClassId) (hMo hMo_isThere hMo_stationX hMo_stationY hMo_stationZ hMo_told hMo_weight hMo_poleX hMo_poleY hMo_poleZ hMo_lesser hMo_greater hMo_misfit hMo_nodal hMo_order hMo_placeOf hMo_unlikeX hMo_unlikeY hMo_unlikeZ hMo_farUp hMo_farDown hMo_axisOf : Nat) (Mo_isThere : Nat → Int32) (Mo_stationX : Nat → Int32) (Mo_stationY : Nat → Int32) (Mo_stationZ : Nat → Int32) (Mo_told : Nat → Int32) (Mo_weight : Nat → Int32) (Mo_size : Int32) (Mo_extra : Int32) (Mo_poles : Int32) (Mo_poleX : Nat → Int32) (Mo_poleY : Nat → Int32) (Mo_poleZ : Nat → Int32) (Mo_pairs : Int32) (Mo_lesser : Nat → Int32) (Mo_greater : Nat → Int32) (Mo_isKnown : Int32) (Mo_least : Int32) (Mo_kept : Int32) (Mo_misfit : Nat → Int32) (Mo_nodal : Nat → Int32) (Mo_order : Nat → Int32) (Mo_placeOf : Nat → Int32) (Mo_axisX : Int32) (Mo_axisY : Int32) (Mo_axisZ : Int32) (Mo_axes : Int32) (Mo_unlikeX : Nat → Int32) (Mo_unlikeY : Nat → Int32) (Mo_unlikeZ : Nat → Int32) (Mo_farUp : Nat → Int64) (Mo_farDown : Nat → Int64) (Mo_axisOf : Nat → Int32) (p0 : Int32) (p1 : Int32) (sz : Nat) (Q : Int32 → Prop) (hw : wp_X6_pole p0 p1 Mo_poles Mo_poleX Mo_poleY Mo_poleZ Q) : Met l yX6_pole (wA yX6_pole cX6_pole 3 (some .int)) { frames := 2, cells := 0, slots := 0, locals := 43 } (kPc [.ref hMo, .int p0, .int p1] D cy (List.flatten [wMo cy hMo hMo_isThere hMo_stationX hMo_stationY hMo_stationZ hMo_told hMo_weight hMo_poleX hMo_poleY hMo_poleZ hMo_lesser hMo_greater hMo_misfit hMo_nodal hMo_order hMo_placeOf hMo_unlikeX hMo_unlikeY hMo_unlikeZ hMo_farUp hMo_farDown hMo_axisOf Mo_isThere Mo_stationX Mo_stationY Mo_stationZ Mo_told Mo_weight Mo_size Mo_extra Mo_poles Mo_poleX Mo_poleY Mo_poleZ Mo_pairs Mo_lesser Mo_greater Mo_isKnown Mo_least Mo_kept Mo_misfit Mo_nodal Mo_order Mo_placeOf Mo_axisX Mo_axisY Mo_axisZ Mo_axes Mo_unlikeX Mo_unlikeY Mo_unlikeZ Mo_farUp Mo_farDown Mo_axisOf]) sz) (kSi Q) 0 0 (fun _ => False) := by
  refine Met.ofW (cc := cX6_pole) (maxL := 3) (ret := (some .int)) (by decide) rfl ?_
  intro p e s m args below meth c s₁ B hml hv
  obtain ⟨rfl, hsz, hN, hP, hK, hD0⟩ := hv
  have hx := B.exec
  have hb := B.bytes
  have hr := B.returns
  have hts0 := atoms_spec (ws := wA yX6_pole cX6_pole 3 (some .int)) B.pre
  have hts := fun w (h : w ∈ wsL_law) => hts0 w (List.mem_cons_of_mem _ h)
  have hown : s.vm.findClass RX6 = some m.cls := findClass_of_methodNamed B.named
  have hlocks := B.notSynchronized
  subst hsz
  have hD := hD0
  have hl := lv_entry ([.ref hMo, .int p0, .int p1]) (n := 3) (Nat.le_of_ble_eq_true rfl)
  rw [lg_entry_eq]
  generalize (lg_sl ([.ref hMo, .int p0, .int p1]) ++ List.replicate (3 - (lg_sl ([.ref hMo, .int p0, .int p1])).length) Slot.unset).toArray = ls at hl ⊢
  have hl : lv_has ls 3 [(0, .ref hMo), (1, .int p0), (2, .int p1)] := hl
  unfold wp_X6_pole at hw
  refine lv_aload_n hx hb dX6_pole_0 rfl (lv_at hl 0 rfl) ?_
  refine lv_iload_n hx hb dX6_pole_1 rfl (lv_at hl 1 rfl) ?_
  refine kc_i (va_runV (As := [.int p0]) (rest := []) ⟨hx, hb, hml, hown, hts⟩ (k_X6_isPole l D cy hMo hMo_isThere hMo_stationX hMo_stationY hMo_stationZ hMo_told hMo_weight hMo_poleX hMo_poleY hMo_poleZ hMo_lesser hMo_greater hMo_misfit hMo_nodal hMo_order hMo_placeOf hMo_unlikeX hMo_unlikeY hMo_unlikeZ hMo_farUp hMo_farDown hMo_axisOf Mo_isThere Mo_stationX Mo_stationY Mo_stationZ Mo_told Mo_weight Mo_size Mo_extra Mo_poles Mo_poleX Mo_poleY Mo_poleZ Mo_pairs Mo_lesser Mo_greater Mo_isKnown Mo_least Mo_kept Mo_misfit Mo_nodal Mo_order Mo_placeOf Mo_axisX Mo_axisY Mo_axisZ Mo_axes Mo_unlikeX Mo_unlikeY Mo_unlikeZ Mo_farUp Mo_farDown Mo_axisOf p0 _ _ hw) (cwV 1 hts (gV mw_19_16 mw_19_17 mw_19_18 mw_1_5 mw_19_19) rfl rfl rfl (by decide +kernel) ⟨Nat.le_of_ble_eq_true rfl, Nat.le_of_ble_eq_true rfl⟩) (fPreV hN hK hP hD [0] rfl rfl 0 (ci := 6) rfl rfl rfl _) rfl rfl hl.1 rfl (lv_room (Nat.le_of_ble_eq_true rfl)) dX6_pole_2 ⟨Nat.zero_le _, Nat.zero_le _⟩) (fun r1 hw => ?_)
  refine lv_if_ne (tgt := 10) hx hb dX6_pole_5 (by decide) (fun c3 => ?_) (fun c3 => ?_)
  · have hw := hw.2 c3
    refine lv_iload_n hx hb dX6_pole_10 rfl (lv_at hl 2 rfl) ?_
    by_cases c2_0 : p1 = 0
    · have hw := hw.1 c2_0
      have tv : (p1).toInt = 0 := by rw [c2_0]; rfl
      refine lv_tableIn (tgt := 36) hx hb dX6_pole_11 (by rw [tv]; decide) (by rw [tv]; decide) (by rw [tv]; rfl) (by decide) ?_
      refine lv_aload_n hx hb dX6_pole_36 rfl (lv_at hl 0 rfl) ?_
      refine va_get (D := D) (ci := 6) (v := .ref hMo_poleX) (C := RX6) (T := TX6) (N := 32) hx hb hts inlX6 hown hK hP 0 rfl rfl 9 (by decide) (hts (.fieldLink RX6 33 "SquarePlanesModel" "poleX" "[I") mw_7_15) (fun _ h9 => h9) rfl dX6_pole_37 ?_
      refine lv_iload_n hx hb dX6_pole_40 rfl (lv_at hl 1 rfl) ?_
      refine va_iald hx hb hK hP 7 0 rfl rfl hw.1 dX6_pole_41 ?_
      have hw := hw.2
      refine lv_bipush (v := 10) hx hb dX6_pole_42 (by decide) ?_
      refine lv_iadd hx hb dX6_pole_44 ?_
      exact W.iret (v := (Mo_poleX p0.toNatClampNeg) + 10) hx hb hr (fun t ht hW => ⟨(Mo_poleX p0.toNatClampNeg) + 10, rfl, hw, ht⟩) (fun q h => by cases h) dX6_pole_45
    by_cases c2_1 : p1 = 1
    · have hw := hw.2.1 c2_1
      have tv : (p1).toInt = 1 := by rw [c2_1]; rfl
      refine lv_tableIn (tgt := 46) hx hb dX6_pole_11 (by rw [tv]; decide) (by rw [tv]; decide) (by rw [tv]; rfl) (by decide) ?_
      refine lv_aload_n hx hb dX6_pole_46 rfl (lv_at hl 0 rfl) ?_
      refine va_get (D := D) (ci := 6) (v := .ref hMo_poleY) (C := RX6) (T := TX6) (N := 32) hx hb hts inlX6 hown hK hP 0 rfl rfl 10 (by decide) (hts (.fieldLink RX6 36 "SquarePlanesModel" "poleY" "[I") mw_7_16) (fun _ h9 => h9) rfl dX6_pole_47 ?_
      refine lv_iload_n hx hb dX6_pole_50 rfl (lv_at hl 1 rfl) ?_
      refine va_iald hx hb hK hP 8 0 rfl rfl hw.1 dX6_pole_51 ?_
      have hw := hw.2
      refine lv_bipush (v := 10) hx hb dX6_pole_52 (by decide) ?_
      refine lv_iadd hx hb dX6_pole_54 ?_
      exact W.iret (v := (Mo_poleY p0.toNatClampNeg) + 10) hx hb hr (fun t ht hW => ⟨(Mo_poleY p0.toNatClampNeg) + 10, rfl, hw, ht⟩) (fun q h => by cases h) dX6_pole_55
    by_cases c2_2 : p1 = 2
    · have hw := hw.2.2.1 c2_2
      have tv : (p1).toInt = 2 := by rw [c2_2]; rfl
      refine lv_tableIn (tgt := 56) hx hb dX6_pole_11 (by rw [tv]; decide) (by rw [tv]; decide) (by rw [tv]; rfl) (by decide) ?_
      refine lv_aload_n hx hb dX6_pole_56 rfl (lv_at hl 0 rfl) ?_
      refine va_get (D := D) (ci := 6) (v := .ref hMo_poleZ) (C := RX6) (T := TX6) (N := 32) hx hb hts inlX6 hown hK hP 0 rfl rfl 11 (by decide) (hts (.fieldLink RX6 39 "SquarePlanesModel" "poleZ" "[I") mw_7_17) (fun _ h9 => h9) rfl dX6_pole_57 ?_
      refine lv_iload_n hx hb dX6_pole_60 rfl (lv_at hl 1 rfl) ?_
      refine va_iald hx hb hK hP 9 0 rfl rfl hw.1 dX6_pole_61 ?_
      have hw := hw.2
      refine lv_bipush (v := 10) hx hb dX6_pole_62 (by decide) ?_
      refine lv_iadd hx hb dX6_pole_64 ?_
      exact W.iret (v := (Mo_poleZ p0.toNatClampNeg) + 10) hx hb hr (fun t ht hW => ⟨(Mo_poleZ p0.toNatClampNeg) + 10, rfl, hw, ht⟩) (fun q h => by cases h) dX6_pole_65
    have hw := hw.2.2.2 c2_0 c2_1 c2_2
    refine lv_tableOut (tgt := 66) hx hb dX6_pole_11 (by have t0 := lv_neT (a := 0) c2_0 rfl; have t1 := lv_neT (a := 1) c2_1 rfl; have t2 := lv_neT (a := 2) c2_2 rfl; omega) (by decide) ?_
    refine lv_bipush (v := (-2)) hx hb dX6_pole_66 (by decide) ?_
    exact W.iret (v := (-2)) hx hb hr (fun t ht hW => ⟨(-2), rfl, hw, ht⟩) (fun q h => by cases h) dX6_pole_68
  · have hw := hw.1 c3
    refine lv_iconst (v := (-1)) hx hb dX6_pole_8 (by decide) ?_
    exact W.iret (v := (-1)) hx hb hr (fun t ht hW => ⟨(-1), rfl, hw, ht⟩) (fun q h => by cases h) dX6_pole_9
set_option maxHeartbeats 4000000 in
set_option maxRecDepth 100000 in
theorem k_X6_poleOf (l : Launch) (D : va_G) (cy : Nat → ClassId) (hMo hMo_isThere hMo_stationX hMo_stationY hMo_stationZ hMo_told hMo_weight hMo_poleX hMo_poleY hMo_poleZ hMo_lesser hMo_greater hMo_misfit hMo_nodal hMo_order hMo_placeOf hMo_unlikeX hMo_unlikeY hMo_unlikeZ hMo_farUp hMo_farDown hMo_axisOf : Nat) (Mo_isThere : Nat → Int32) (Mo_stationX : Nat → Int32) (Mo_stationY : Nat → Int32) (Mo_stationZ : Nat → Int32) (Mo_told : Nat → Int32) (Mo_weight : Nat → Int32) (Mo_size : Int32) (Mo_extra : Int32) (Mo_poles : Int32) (Mo_poleX : Nat → Int32) (Mo_poleY : Nat → Int32) (Mo_poleZ : Nat → Int32) (Mo_pairs : Int32) (Mo_lesser : Nat → Int32) (Mo_greater : Nat → Int32) (Mo_isKnown : Int32) (Mo_least : Int32) (Mo_kept : Int32) (Mo_misfit : Nat → Int32) (Mo_nodal : Nat → Int32) (Mo_order : Nat → Int32) (Mo_placeOf : Nat → Int32) (Mo_axisX : Int32) (Mo_axisY : Int32) (Mo_axisZ : Int32) (Mo_axes : Int32) (Mo_unlikeX : Nat → Int32) (Mo_unlikeY : Nat → Int32) (Mo_unlikeZ : Nat → Int32) (Mo_farUp : Nat → Int64) (Mo_farDown : Nat → Int64) (Mo_axisOf : Nat → Int32) (p0 : Int32) (p1 : Int32) (p2 : Int32) (sz : Nat) (Q : Int32 → Prop) (hw : wp_X6_poleOf p0 p1 p2 Mo_poles Mo_poleX Mo_poleY Mo_poleZ Q) : Met l yX6_poleOf (wA yX6_poleOf cX6_poleOf 6 (some .int)) { frames := 2, cells := 0, slots := 0, locals := 44 } (kPc [.ref hMo, .int p0, .int p1, .int p2] D cy (List.flatten [wMo cy hMo hMo_isThere hMo_stationX hMo_stationY hMo_stationZ hMo_told hMo_weight hMo_poleX hMo_poleY hMo_poleZ hMo_lesser hMo_greater hMo_misfit hMo_nodal hMo_order hMo_placeOf hMo_unlikeX hMo_unlikeY hMo_unlikeZ hMo_farUp hMo_farDown hMo_axisOf Mo_isThere Mo_stationX Mo_stationY Mo_stationZ Mo_told Mo_weight Mo_size Mo_extra Mo_poles Mo_poleX Mo_poleY Mo_poleZ Mo_pairs Mo_lesser Mo_greater Mo_isKnown Mo_least Mo_kept Mo_misfit Mo_nodal Mo_order Mo_placeOf Mo_axisX Mo_axisY Mo_axisZ Mo_axes Mo_unlikeX Mo_unlikeY Mo_unlikeZ Mo_farUp Mo_farDown Mo_axisOf]) sz) (kSi Q) 0 0 (fun _ => False) := by
  refine Met.ofW (cc := cX6_poleOf) (maxL := 6) (ret := (some .int)) (by decide) rfl ?_
  intro p e s m args below meth c s₁ B hml hv
  obtain ⟨rfl, hsz, hN, hP, hK, hD0⟩ := hv
  have hx := B.exec
  have hb := B.bytes
  have hr := B.returns
  have hts0 := atoms_spec (ws := wA yX6_poleOf cX6_poleOf 6 (some .int)) B.pre
  have hts := fun w (h : w ∈ wsL_law) => hts0 w (List.mem_cons_of_mem _ h)
  have hown : s.vm.findClass RX6 = some m.cls := findClass_of_methodNamed B.named
  have hlocks := B.notSynchronized
  subst hsz
  have hD := hD0
  have hl := lv_entry ([.ref hMo, .int p0, .int p1, .int p2]) (n := 6) (Nat.le_of_ble_eq_true rfl)
  rw [lg_entry_eq]
  generalize (lg_sl ([.ref hMo, .int p0, .int p1, .int p2]) ++ List.replicate (6 - (lg_sl ([.ref hMo, .int p0, .int p1, .int p2])).length) Slot.unset).toArray = ls at hl ⊢
  have hl : lv_has ls 6 [(0, .ref hMo), (1, .int p0), (2, .int p1), (3, .int p2)] := hl
  unfold wp_X6_poleOf at hw
  refine lv_iload_n hx hb dX6_poleOf_0 rfl (lv_at hl 1 rfl) ?_
  refine lv_iload_n hx hb dX6_poleOf_1 rfl (lv_at hl 2 rfl) ?_
  refine lv_iload_n hx hb dX6_poleOf_2 rfl (lv_at hl 3 rfl) ?_
  refine kc_i (va_runS (As := [.int p0, .int p1, .int p2]) (rest := []) ⟨hx, hb, hml, hown, hts⟩ (k_X6_isTriple l D cy p0 p1 p2 _ _ hw) (va_cwS 3 hts (gS mw_10_8 mw_10_9 mw_1_5 mw_10_10) rfl rfl rfl (by decide +kernel) ⟨Nat.le_of_ble_eq_true rfl, Nat.le_of_ble_eq_true rfl⟩) (fPre hN hK hP hD [] rfl rfl _) rfl rfl hl.1 rfl (lv_room (Nat.le_of_ble_eq_true rfl)) dX6_poleOf_3 ⟨Nat.zero_le _, Nat.zero_le _⟩) (fun r1 hw => ?_)
  refine lv_if_ne (tgt := 12) hx hb dX6_poleOf_6 (by decide) (fun c6 => ?_) (fun c6 => ?_)
  · have hw := hw.2 c6
    refine lv_iload_n hx hb dX6_poleOf_12 rfl (lv_at hl 1 rfl) ?_
    refine lv_iload_n hx hb dX6_poleOf_13 rfl (lv_at hl 2 rfl) ?_
    refine kc_i (va_runS (As := [.int p0, .int p1]) (rest := []) ⟨hx, hb, hml, hown, hts⟩ (k_X6_common l D cy p0 p1 _ _ hw) (va_cwS 2 hts (gS mw_9_3 mw_9_4 mw_1_5 mw_9_5) rfl rfl rfl (by decide +kernel) ⟨Nat.le_of_ble_eq_true rfl, Nat.le_of_ble_eq_true rfl⟩) (fPre hN hK hP hD [] rfl rfl _) rfl rfl hl.1 rfl (lv_room (Nat.le_of_ble_eq_true rfl)) dX6_poleOf_14 ⟨Nat.zero_le _, Nat.zero_le _⟩) (fun r2 hw => ?_)
    refine lv_iload_n hx hb dX6_poleOf_17 rfl (lv_at hl 3 rfl) ?_
    refine kc_i (va_runS (As := [.int r2, .int p2]) (rest := []) ⟨hx, hb, hml, hown, hts⟩ (k_X6_common l D cy r2 p2 _ _ hw) (va_cwS 2 hts (gS mw_9_3 mw_9_4 mw_1_5 mw_9_5) rfl rfl rfl (by decide +kernel) ⟨Nat.le_of_ble_eq_true rfl, Nat.le_of_ble_eq_true rfl⟩) (fPre hN hK hP hD [] rfl rfl _) rfl rfl hl.1 rfl (lv_room (Nat.le_of_ble_eq_true rfl)) dX6_poleOf_18 ⟨Nat.zero_le _, Nat.zero_le _⟩) (fun r3 hw => ?_)
    refine lv_iload_n hx hb dX6_poleOf_21 rfl (lv_at hl 1 rfl) ?_
    refine lv_iload_n hx hb dX6_poleOf_22 rfl (lv_at hl 2 rfl) ?_
    refine lv_iload_n hx hb dX6_poleOf_23 rfl (lv_at hl 3 rfl) ?_
    refine kc_i (va_runS (As := [.int p0, .int p1, .int p2]) (rest := [.int r3]) ⟨hx, hb, hml, hown, hts⟩ (k_X6_leading l D cy p0 p1 p2 _ _ hw) (va_cwS 3 hts (gS mw_8_21 mw_8_22 mw_1_5 mw_8_23) rfl rfl rfl (by decide +kernel) ⟨Nat.le_of_ble_eq_true rfl, Nat.le_of_ble_eq_true rfl⟩) (fPre hN hK hP hD [] rfl rfl _) rfl rfl hl.1 rfl (lv_room (Nat.le_of_ble_eq_true rfl)) dX6_poleOf_24 ⟨Nat.zero_le _, Nat.zero_le _⟩) (fun r4 hw => ?_)
    refine lv_imul hx hb dX6_poleOf_27 ?_
    refine lv_topi (fun x5 ex5 => ?_)
    have hw := hw x5 ex5
    refine lv_istore (lv' := [(4, .int x5), (0, .ref hMo), (1, .int p0), (2, .int p1), (3, .int p2)]) hx hb dX6_poleOf_28 hl (by decide) rfl (fun ls hl => ?_)
    refine lv_iconst (v := 0) hx hb dX6_poleOf_30 (by decide) ?_
    refine lv_istore (lv' := [(5, .int 0), (4, .int x5), (0, .ref hMo), (1, .int p0), (2, .int p1), (3, .int p2)]) hx hb dX6_poleOf_31 hl (by decide) rfl (fun ls hl => ?_)
    obtain ⟨n33, hw⟩ := hw
    have kl33 : ∀ (K33_93 : Int32 → Prop) (K33_84 : Int32 → Prop) (hk33_93 : ∀ (y5_33 : Int32) (ls : Array Slot), K33_93 y5_33 → lv_has ls 6 [(0, .ref hMo), (1, .int p0), (2, .int p1), (3, .int p2), (4, .int x5), (5, .int y5_33)] → W p l e (headSpec (wA yX6_poleOf cX6_poleOf 6 (some .int)) { frames := 2, cells := 0, slots := 0, locals := 44 }).room s m #[.ref hMo, .int p0, .int p1, .int p2] below meth c s.heap [] 0 0 (MQ below (kSi Q) #[.ref hMo, .int p0, .int p1, .int p2] s 0 0 (fun _ => False)) (F0 m 93 ls [])) (hk33_84 : ∀ (y5_33 : Int32) (ls : Array Slot), K33_84 y5_33 → lv_has ls 6 [(0, .ref hMo), (1, .int p0), (2, .int p1), (3, .int p2), (4, .int x5), (5, .int y5_33)] → W p l e (headSpec (wA yX6_poleOf cX6_poleOf 6 (some .int)) { frames := 2, cells := 0, slots := 0, locals := 44 }).room s m #[.ref hMo, .int p0, .int p1, .int p2] below meth c s.heap [] 0 0 (MQ below (kSi Q) #[.ref hMo, .int p0, .int p1, .int p2] s 0 0 (fun _ => False)) (F0 m 84 ls [])) (n : Nat) (y5_33 : Int32) (ls : Array Slot), wp_X6_poleOf_L33 p0 p1 p2 Mo_poles Mo_poleX Mo_poleY Mo_poleZ x5 K33_93 K33_84 n y5_33 → lv_has ls 6 [(0, .ref hMo), (1, .int p0), (2, .int p1), (3, .int p2), (4, .int x5), (5, .int y5_33)] → W p l e (headSpec (wA yX6_poleOf cX6_poleOf 6 (some .int)) { frames := 2, cells := 0, slots := 0, locals := 44 }).room s m #[.ref hMo, .int p0, .int p1, .int p2] below meth c s.heap [] 0 0 (MQ below (kSi Q) #[.ref hMo, .int p0, .int p1, .int p2] s 0 0 (fun _ => False)) (F0 m 33 ls []) := by
      intro K33_93 K33_84 hk33_93 hk33_84 n
      induction n with
      | zero =>
        intro y5_33 ls hw
        exact hw.elim
      | succ n ih33 =>
        intro y5_33 ls hw hl
        unfold wp_X6_poleOf_L33 at hw
        refine lv_iload hx hb dX6_poleOf_33 (lv_at hl 5 rfl) ?_
        refine lv_aload_n hx hb dX6_poleOf_35 rfl (lv_at hl 0 rfl) ?_
        refine va_get (D := D) (ci := 6) (v := .int Mo_poles) (C := RX6) (T := TX6) (N := 32) hx hb hts inlX6 hown hK hP 0 rfl rfl 8 (by decide) (hts (.fieldLink RX6 123 "SquarePlanesModel" "poles" "I") mw_8_11) (fun _ h9 => h9) rfl dX6_poleOf_36 ?_
        refine lv_icmp_ge (tgt := 93) hx hb dX6_poleOf_39 (by decide) (fun c4_33 => ?_) (fun c4_33 => ?_)
        · have hw := hw.1 c4_33
          exact hk33_93 y5_33 ls hw (lv_sub hl [0, 1, 2, 3, 4, 5] rfl)
        · have hw := hw.2 c4_33
          refine lv_aload_n hx hb dX6_poleOf_42 rfl (lv_at hl 0 rfl) ?_
          refine va_get (D := D) (ci := 6) (v := .ref hMo_poleX) (C := RX6) (T := TX6) (N := 32) hx hb hts inlX6 hown hK hP 0 rfl rfl 9 (by decide) (hts (.fieldLink RX6 33 "SquarePlanesModel" "poleX" "[I") mw_7_15) (fun _ h9 => h9) rfl dX6_poleOf_43 ?_
          refine lv_iload hx hb dX6_poleOf_46 (lv_at hl 5 rfl) ?_
          refine va_iald hx hb hK hP 7 0 rfl rfl hw.1 dX6_poleOf_48 ?_
          have hw := hw.2
          refine lv_iload_n hx hb dX6_poleOf_49 rfl (lv_at hl 1 rfl) ?_
          refine lv_iload hx hb dX6_poleOf_50 (lv_at hl 4 rfl) ?_
          refine lv_idiv hx hb dX6_poleOf_52 hw.1 ?_
          have hw := hw.2
          refine lv_icmp_ne (tgt := 87) hx hb dX6_poleOf_53 (by decide) (fun c3_33 => ?_) (fun c3_33 => ?_)
          · have hw := hw.2 c3_33
            refine lv_iinc (v := y5_33 + 1) (lv' := [(5, .int (y5_33 + 1)), (0, .ref hMo), (1, .int p0), (2, .int p1), (3, .int p2), (4, .int x5)]) hx hb dX6_poleOf_87 hl (k := 5) rfl rfl (by decide) rfl (fun ls hl => ?_)
            refine lv_goto (tgt := 33) hx hb dX6_poleOf_90 (by decide) ?_
            exact ih33 (y5_33 + 1) ls hw (lv_sub hl [1, 2, 3, 4, 5, 0] rfl)
          · have hw := hw.1 c3_33
            refine lv_aload_n hx hb dX6_poleOf_56 rfl (lv_at hl 0 rfl) ?_
            refine va_get (D := D) (ci := 6) (v := .ref hMo_poleY) (C := RX6) (T := TX6) (N := 32) hx hb hts inlX6 hown hK hP 0 rfl rfl 10 (by decide) (hts (.fieldLink RX6 36 "SquarePlanesModel" "poleY" "[I") mw_7_16) (fun _ h9 => h9) rfl dX6_poleOf_57 ?_
            refine lv_iload hx hb dX6_poleOf_60 (lv_at hl 5 rfl) ?_
            refine va_iald hx hb hK hP 8 0 rfl rfl hw.1 dX6_poleOf_62 ?_
            have hw := hw.2
            refine lv_iload_n hx hb dX6_poleOf_63 rfl (lv_at hl 2 rfl) ?_
            refine lv_iload hx hb dX6_poleOf_64 (lv_at hl 4 rfl) ?_
            refine lv_idiv hx hb dX6_poleOf_66 hw.1 ?_
            have hw := hw.2
            refine lv_icmp_ne (tgt := 87) hx hb dX6_poleOf_67 (by decide) (fun c2_33 => ?_) (fun c2_33 => ?_)
            · have hw := hw.2 c2_33
              refine lv_iinc (v := y5_33 + 1) (lv' := [(5, .int (y5_33 + 1)), (0, .ref hMo), (1, .int p0), (2, .int p1), (3, .int p2), (4, .int x5)]) hx hb dX6_poleOf_87 hl (k := 5) rfl rfl (by decide) rfl (fun ls hl => ?_)
              refine lv_goto (tgt := 33) hx hb dX6_poleOf_90 (by decide) ?_
              exact ih33 (y5_33 + 1) ls hw (lv_sub hl [1, 2, 3, 4, 5, 0] rfl)
            · have hw := hw.1 c2_33
              refine lv_aload_n hx hb dX6_poleOf_70 rfl (lv_at hl 0 rfl) ?_
              refine va_get (D := D) (ci := 6) (v := .ref hMo_poleZ) (C := RX6) (T := TX6) (N := 32) hx hb hts inlX6 hown hK hP 0 rfl rfl 11 (by decide) (hts (.fieldLink RX6 39 "SquarePlanesModel" "poleZ" "[I") mw_7_17) (fun _ h9 => h9) rfl dX6_poleOf_71 ?_
              refine lv_iload hx hb dX6_poleOf_74 (lv_at hl 5 rfl) ?_
              refine va_iald hx hb hK hP 9 0 rfl rfl hw.1 dX6_poleOf_76 ?_
              have hw := hw.2
              refine lv_iload_n hx hb dX6_poleOf_77 rfl (lv_at hl 3 rfl) ?_
              refine lv_iload hx hb dX6_poleOf_78 (lv_at hl 4 rfl) ?_
              refine lv_idiv hx hb dX6_poleOf_80 hw.1 ?_
              have hw := hw.2
              refine lv_icmp_ne (tgt := 87) hx hb dX6_poleOf_81 (by decide) (fun c1_33 => ?_) (fun c1_33 => ?_)
              · have hw := hw.2 c1_33
                refine lv_iinc (v := y5_33 + 1) (lv' := [(5, .int (y5_33 + 1)), (0, .ref hMo), (1, .int p0), (2, .int p1), (3, .int p2), (4, .int x5)]) hx hb dX6_poleOf_87 hl (k := 5) rfl rfl (by decide) rfl (fun ls hl => ?_)
                refine lv_goto (tgt := 33) hx hb dX6_poleOf_90 (by decide) ?_
                exact ih33 (y5_33 + 1) ls hw (lv_sub hl [1, 2, 3, 4, 5, 0] rfl)
              · have hw := hw.1 c1_33
                exact hk33_84 y5_33 ls hw (lv_sub hl [0, 1, 2, 3, 4, 5] rfl)
    refine kl33 _ _ ?_ ?_ n33 0 ls hw (lv_sub hl [2, 3, 4, 5, 1, 0] rfl)
    · intro y5_33 ls hw hl
      refine lv_bipush (v := (-9)) hx hb dX6_poleOf_93 (by decide) ?_
      exact W.iret (v := (-9)) hx hb hr (fun t ht hW => ⟨(-9), rfl, hw, ht⟩) (fun q h => by cases h) dX6_poleOf_95
    · intro y5_33 ls hw hl
      refine lv_iload hx hb dX6_poleOf_84 (lv_at hl 5 rfl) ?_
      exact W.iret (v := y5_33) hx hb hr (fun t ht hW => ⟨y5_33, rfl, hw, ht⟩) (fun q h => by cases h) dX6_poleOf_86
  · have hw := hw.1 c6
    refine lv_bipush (v := (-2)) hx hb dX6_poleOf_9 (by decide) ?_
    exact W.iret (v := (-2)) hx hb hr (fun t ht hW => ⟨(-2), rfl, hw, ht⟩) (fun q h => by cases h) dX6_poleOf_11
set_option maxHeartbeats 4000000 in
set_option maxRecDepth 100000 in
theorem k_X6_pairOf (l : Launch) (D : va_G) (cy : Nat → ClassId) (hMo hMo_isThere hMo_stationX hMo_stationY hMo_stationZ hMo_told hMo_weight hMo_poleX hMo_poleY hMo_poleZ hMo_lesser hMo_greater hMo_misfit hMo_nodal hMo_order hMo_placeOf hMo_unlikeX hMo_unlikeY hMo_unlikeZ hMo_farUp hMo_farDown hMo_axisOf : Nat) (Mo_isThere : Nat → Int32) (Mo_stationX : Nat → Int32) (Mo_stationY : Nat → Int32) (Mo_stationZ : Nat → Int32) (Mo_told : Nat → Int32) (Mo_weight : Nat → Int32) (Mo_size : Int32) (Mo_extra : Int32) (Mo_poles : Int32) (Mo_poleX : Nat → Int32) (Mo_poleY : Nat → Int32) (Mo_poleZ : Nat → Int32) (Mo_pairs : Int32) (Mo_lesser : Nat → Int32) (Mo_greater : Nat → Int32) (Mo_isKnown : Int32) (Mo_least : Int32) (Mo_kept : Int32) (Mo_misfit : Nat → Int32) (Mo_nodal : Nat → Int32) (Mo_order : Nat → Int32) (Mo_placeOf : Nat → Int32) (Mo_axisX : Int32) (Mo_axisY : Int32) (Mo_axisZ : Int32) (Mo_axes : Int32) (Mo_unlikeX : Nat → Int32) (Mo_unlikeY : Nat → Int32) (Mo_unlikeZ : Nat → Int32) (Mo_farUp : Nat → Int64) (Mo_farDown : Nat → Int64) (Mo_axisOf : Nat → Int32) (p0 : Int32) (p1 : Int32) (sz : Nat) (Q : Int32 → Prop) (hw : wp_X6_pairOf p0 p1 Mo_poles Mo_pairs Mo_lesser Mo_greater Q) : Met l yX6_pairOf (wA yX6_pairOf cX6_pairOf 4 (some .int)) { frames := 2, cells := 0, slots := 0, locals := 43 } (kPc [.ref hMo, .int p0, .int p1] D cy (List.flatten [wMo cy hMo hMo_isThere hMo_stationX hMo_stationY hMo_stationZ hMo_told hMo_weight hMo_poleX hMo_poleY hMo_poleZ hMo_lesser hMo_greater hMo_misfit hMo_nodal hMo_order hMo_placeOf hMo_unlikeX hMo_unlikeY hMo_unlikeZ hMo_farUp hMo_farDown hMo_axisOf Mo_isThere Mo_stationX Mo_stationY Mo_stationZ Mo_told Mo_weight Mo_size Mo_extra Mo_poles Mo_poleX Mo_poleY Mo_poleZ Mo_pairs Mo_lesser Mo_greater Mo_isKnown Mo_least Mo_kept Mo_misfit Mo_nodal Mo_order Mo_placeOf Mo_axisX Mo_axisY Mo_axisZ Mo_axes Mo_unlikeX Mo_unlikeY Mo_unlikeZ Mo_farUp Mo_farDown Mo_axisOf]) sz) (kSi Q) 0 0 (fun _ => False) := by
  refine Met.ofW (cc := cX6_pairOf) (maxL := 4) (ret := (some .int)) (by decide) rfl ?_
  intro p e s m args below meth c s₁ B hml hv
  obtain ⟨rfl, hsz, hN, hP, hK, hD0⟩ := hv
  have hx := B.exec
  have hb := B.bytes
  have hr := B.returns
  have hts0 := atoms_spec (ws := wA yX6_pairOf cX6_pairOf 4 (some .int)) B.pre
  have hts := fun w (h : w ∈ wsL_law) => hts0 w (List.mem_cons_of_mem _ h)
  have hown : s.vm.findClass RX6 = some m.cls := findClass_of_methodNamed B.named
  have hlocks := B.notSynchronized
  subst hsz
  have hD := hD0
  have hl := lv_entry ([.ref hMo, .int p0, .int p1]) (n := 4) (Nat.le_of_ble_eq_true rfl)
  rw [lg_entry_eq]
  generalize (lg_sl ([.ref hMo, .int p0, .int p1]) ++ List.replicate (4 - (lg_sl ([.ref hMo, .int p0, .int p1])).length) Slot.unset).toArray = ls at hl ⊢
  have hl : lv_has ls 4 [(0, .ref hMo), (1, .int p0), (2, .int p1)] := hl
  unfold wp_X6_pairOf at hw
  refine lv_aload_n hx hb dX6_pairOf_0 rfl (lv_at hl 0 rfl) ?_
  refine lv_iload_n hx hb dX6_pairOf_1 rfl (lv_at hl 1 rfl) ?_
  refine kc_i (va_runV (As := [.int p0]) (rest := []) ⟨hx, hb, hml, hown, hts⟩ (k_X6_isPole l D cy hMo hMo_isThere hMo_stationX hMo_stationY hMo_stationZ hMo_told hMo_weight hMo_poleX hMo_poleY hMo_poleZ hMo_lesser hMo_greater hMo_misfit hMo_nodal hMo_order hMo_placeOf hMo_unlikeX hMo_unlikeY hMo_unlikeZ hMo_farUp hMo_farDown hMo_axisOf Mo_isThere Mo_stationX Mo_stationY Mo_stationZ Mo_told Mo_weight Mo_size Mo_extra Mo_poles Mo_poleX Mo_poleY Mo_poleZ Mo_pairs Mo_lesser Mo_greater Mo_isKnown Mo_least Mo_kept Mo_misfit Mo_nodal Mo_order Mo_placeOf Mo_axisX Mo_axisY Mo_axisZ Mo_axes Mo_unlikeX Mo_unlikeY Mo_unlikeZ Mo_farUp Mo_farDown Mo_axisOf p0 _ _ hw) (cwV 1 hts (gV mw_19_16 mw_19_17 mw_19_18 mw_1_5 mw_19_19) rfl rfl rfl (by decide +kernel) ⟨Nat.le_of_ble_eq_true rfl, Nat.le_of_ble_eq_true rfl⟩) (fPreV hN hK hP hD [0] rfl rfl 0 (ci := 6) rfl rfl rfl _) rfl rfl hl.1 rfl (lv_room (Nat.le_of_ble_eq_true rfl)) dX6_pairOf_2 ⟨Nat.zero_le _, Nat.zero_le _⟩) (fun r1 hw => ?_)
  refine lv_if_eq (tgt := 16) hx hb dX6_pairOf_5 (by decide) (fun c4 => ?_) (fun c4 => ?_)
  · have hw := hw.1 c4
    refine lv_iconst (v := (-1)) hx hb dX6_pairOf_16 (by decide) ?_
    exact W.iret (v := (-1)) hx hb hr (fun t ht hW => ⟨(-1), rfl, hw, ht⟩) (fun q h => by cases h) dX6_pairOf_17
  · have hw := hw.2 c4
    refine lv_aload_n hx hb dX6_pairOf_8 rfl (lv_at hl 0 rfl) ?_
    refine lv_iload_n hx hb dX6_pairOf_9 rfl (lv_at hl 2 rfl) ?_
    refine kc_i (va_runV (As := [.int p1]) (rest := []) ⟨hx, hb, hml, hown, hts⟩ (k_X6_isPole l D cy hMo hMo_isThere hMo_stationX hMo_stationY hMo_stationZ hMo_told hMo_weight hMo_poleX hMo_poleY hMo_poleZ hMo_lesser hMo_greater hMo_misfit hMo_nodal hMo_order hMo_placeOf hMo_unlikeX hMo_unlikeY hMo_unlikeZ hMo_farUp hMo_farDown hMo_axisOf Mo_isThere Mo_stationX Mo_stationY Mo_stationZ Mo_told Mo_weight Mo_size Mo_extra Mo_poles Mo_poleX Mo_poleY Mo_poleZ Mo_pairs Mo_lesser Mo_greater Mo_isKnown Mo_least Mo_kept Mo_misfit Mo_nodal Mo_order Mo_placeOf Mo_axisX Mo_axisY Mo_axisZ Mo_axes Mo_unlikeX Mo_unlikeY Mo_unlikeZ Mo_farUp Mo_farDown Mo_axisOf p1 _ _ hw) (cwV 1 hts (gV mw_19_16 mw_19_17 mw_19_18 mw_1_5 mw_19_19) rfl rfl rfl (by decide +kernel) ⟨Nat.le_of_ble_eq_true rfl, Nat.le_of_ble_eq_true rfl⟩) (fPreV hN hK hP hD [0] rfl rfl 0 (ci := 6) rfl rfl rfl _) rfl rfl hl.1 rfl (lv_room (Nat.le_of_ble_eq_true rfl)) dX6_pairOf_10 ⟨Nat.zero_le _, Nat.zero_le _⟩) (fun r2 hw => ?_)
    refine lv_if_ne (tgt := 18) hx hb dX6_pairOf_13 (by decide) (fun c3 => ?_) (fun c3 => ?_)
    · have hw := hw.2 c3
      refine lv_iconst (v := 0) hx hb dX6_pairOf_18 (by decide) ?_
      refine lv_istore_n (lv' := [(3, .int 0), (0, .ref hMo), (1, .int p0), (2, .int p1)]) hx hb dX6_pairOf_19 rfl hl (by decide) rfl (fun ls hl => ?_)
      obtain ⟨n20, hw⟩ := hw
      have kl20 : ∀ (K20_76 : Int32 → Prop) (K20_68 : Int32 → Prop) (hk20_76 : ∀ (y3_20 : Int32) (ls : Array Slot), K20_76 y3_20 → lv_has ls 4 [(0, .ref hMo), (1, .int p0), (2, .int p1), (3, .int y3_20)] → W p l e (headSpec (wA yX6_pairOf cX6_pairOf 4 (some .int)) { frames := 2, cells := 0, slots := 0, locals := 43 }).room s m #[.ref hMo, .int p0, .int p1] below meth c s.heap [] 0 0 (MQ below (kSi Q) #[.ref hMo, .int p0, .int p1] s 0 0 (fun _ => False)) (F0 m 76 ls [])) (hk20_68 : ∀ (y3_20 : Int32) (ls : Array Slot), K20_68 y3_20 → lv_has ls 4 [(0, .ref hMo), (1, .int p0), (2, .int p1), (3, .int y3_20)] → W p l e (headSpec (wA yX6_pairOf cX6_pairOf 4 (some .int)) { frames := 2, cells := 0, slots := 0, locals := 43 }).room s m #[.ref hMo, .int p0, .int p1] below meth c s.heap [] 0 0 (MQ below (kSi Q) #[.ref hMo, .int p0, .int p1] s 0 0 (fun _ => False)) (F0 m 68 ls [])) (n : Nat) (y3_20 : Int32) (ls : Array Slot), wp_X6_pairOf_L20 p0 p1 Mo_pairs Mo_lesser Mo_greater K20_76 K20_68 n y3_20 → lv_has ls 4 [(0, .ref hMo), (1, .int p0), (2, .int p1), (3, .int y3_20)] → W p l e (headSpec (wA yX6_pairOf cX6_pairOf 4 (some .int)) { frames := 2, cells := 0, slots := 0, locals := 43 }).room s m #[.ref hMo, .int p0, .int p1] below meth c s.heap [] 0 0 (MQ below (kSi Q) #[.ref hMo, .int p0, .int p1] s 0 0 (fun _ => False)) (F0 m 20 ls []) := by
        intro K20_76 K20_68 hk20_76 hk20_68 n
        induction n with
        | zero =>
          intro y3_20 ls hw
          exact hw.elim
        | succ n ih20 =>
          intro y3_20 ls hw hl
          unfold wp_X6_pairOf_L20 at hw
          refine lv_iload_n hx hb dX6_pairOf_20 rfl (lv_at hl 3 rfl) ?_
          refine lv_aload_n hx hb dX6_pairOf_21 rfl (lv_at hl 0 rfl) ?_
          refine va_get (D := D) (ci := 6) (v := .int Mo_pairs) (C := RX6) (T := TX6) (N := 32) hx hb hts inlX6 hown hK hP 0 rfl rfl 12 (by decide) (hts (.fieldLink RX6 130 "SquarePlanesModel" "pairs" "I") mw_8_12) (fun _ h9 => h9) rfl dX6_pairOf_22 ?_
          refine lv_icmp_ge (tgt := 76) hx hb dX6_pairOf_25 (by decide) (fun c7_20 => ?_) (fun c7_20 => ?_)
          · have hw := hw.1 c7_20
            exact hk20_76 y3_20 ls hw (lv_sub hl [0, 1, 2, 3] rfl)
          · have hw := hw.2 c7_20
            refine lv_aload_n hx hb dX6_pairOf_28 rfl (lv_at hl 0 rfl) ?_
            refine va_get (D := D) (ci := 6) (v := .ref hMo_lesser) (C := RX6) (T := TX6) (N := 32) hx hb hts inlX6 hown hK hP 0 rfl rfl 13 (by decide) (hts (.fieldLink RX6 42 "SquarePlanesModel" "lesser" "[I") mw_7_18) (fun _ h9 => h9) rfl dX6_pairOf_29 ?_
            refine lv_iload_n hx hb dX6_pairOf_32 rfl (lv_at hl 3 rfl) ?_
            refine va_iald hx hb hK hP 10 0 rfl rfl hw.1 dX6_pairOf_33 ?_
            have hw := hw.2
            refine lv_iload_n hx hb dX6_pairOf_34 rfl (lv_at hl 1 rfl) ?_
            refine lv_icmp_ne (tgt := 48) hx hb dX6_pairOf_35 (by decide) (fun c6_20 => ?_) (fun c6_20 => ?_)
            · have hw := hw.2 c6_20
              refine lv_aload_n hx hb dX6_pairOf_48 rfl (lv_at hl 0 rfl) ?_
              refine va_get (D := D) (ci := 6) (v := .ref hMo_lesser) (C := RX6) (T := TX6) (N := 32) hx hb hts inlX6 hown hK hP 0 rfl rfl 13 (by decide) (hts (.fieldLink RX6 42 "SquarePlanesModel" "lesser" "[I") mw_7_18) (fun _ h9 => h9) rfl dX6_pairOf_49 ?_
              refine lv_iload_n hx hb dX6_pairOf_52 rfl (lv_at hl 3 rfl) ?_
              refine va_iald hx hb hK hP 10 0 rfl rfl hw.1 dX6_pairOf_53 ?_
              have hw := hw.2
              refine lv_iload_n hx hb dX6_pairOf_54 rfl (lv_at hl 2 rfl) ?_
              refine lv_icmp_ne (tgt := 70) hx hb dX6_pairOf_55 (by decide) (fun c2_20 => ?_) (fun c2_20 => ?_)
              · have hw := hw.2 c2_20
                refine lv_iinc (v := y3_20 + 1) (lv' := [(3, .int (y3_20 + 1)), (0, .ref hMo), (1, .int p0), (2, .int p1)]) hx hb dX6_pairOf_70 hl (k := 3) rfl rfl (by decide) rfl (fun ls hl => ?_)
                refine lv_goto (tgt := 20) hx hb dX6_pairOf_73 (by decide) ?_
                exact ih20 (y3_20 + 1) ls hw (lv_sub hl [1, 2, 3, 0] rfl)
              · have hw := hw.1 c2_20
                refine lv_aload_n hx hb dX6_pairOf_58 rfl (lv_at hl 0 rfl) ?_
                refine va_get (D := D) (ci := 6) (v := .ref hMo_greater) (C := RX6) (T := TX6) (N := 32) hx hb hts inlX6 hown hK hP 0 rfl rfl 14 (by decide) (hts (.fieldLink RX6 45 "SquarePlanesModel" "greater" "[I") mw_7_19) (fun _ h9 => h9) rfl dX6_pairOf_59 ?_
                refine lv_iload_n hx hb dX6_pairOf_62 rfl (lv_at hl 3 rfl) ?_
                refine va_iald hx hb hK hP 11 0 rfl rfl hw.1 dX6_pairOf_63 ?_
                have hw := hw.2
                refine lv_iload_n hx hb dX6_pairOf_64 rfl (lv_at hl 1 rfl) ?_
                refine lv_icmp_ne (tgt := 70) hx hb dX6_pairOf_65 (by decide) (fun c1_20 => ?_) (fun c1_20 => ?_)
                · have hw := hw.2 c1_20
                  refine lv_iinc (v := y3_20 + 1) (lv' := [(3, .int (y3_20 + 1)), (0, .ref hMo), (1, .int p0), (2, .int p1)]) hx hb dX6_pairOf_70 hl (k := 3) rfl rfl (by decide) rfl (fun ls hl => ?_)
                  refine lv_goto (tgt := 20) hx hb dX6_pairOf_73 (by decide) ?_
                  exact ih20 (y3_20 + 1) ls hw (lv_sub hl [1, 2, 3, 0] rfl)
                · have hw := hw.1 c1_20
                  exact hk20_68 y3_20 ls hw (lv_sub hl [0, 1, 2, 3] rfl)
            · have hw := hw.1 c6_20
              refine lv_aload_n hx hb dX6_pairOf_38 rfl (lv_at hl 0 rfl) ?_
              refine va_get (D := D) (ci := 6) (v := .ref hMo_greater) (C := RX6) (T := TX6) (N := 32) hx hb hts inlX6 hown hK hP 0 rfl rfl 14 (by decide) (hts (.fieldLink RX6 45 "SquarePlanesModel" "greater" "[I") mw_7_19) (fun _ h9 => h9) rfl dX6_pairOf_39 ?_
              refine lv_iload_n hx hb dX6_pairOf_42 rfl (lv_at hl 3 rfl) ?_
              refine va_iald hx hb hK hP 11 0 rfl rfl hw.1 dX6_pairOf_43 ?_
              have hw := hw.2
              refine lv_iload_n hx hb dX6_pairOf_44 rfl (lv_at hl 2 rfl) ?_
              refine lv_icmp_eq (tgt := 68) hx hb dX6_pairOf_45 (by decide) (fun c5_20 => ?_) (fun c5_20 => ?_)
              · have hw := hw.1 c5_20
                exact hk20_68 y3_20 ls hw (lv_sub hl [0, 1, 2, 3] rfl)
              · have hw := hw.2 c5_20
                refine lv_aload_n hx hb dX6_pairOf_48 rfl (lv_at hl 0 rfl) ?_
                refine va_get (D := D) (ci := 6) (v := .ref hMo_lesser) (C := RX6) (T := TX6) (N := 32) hx hb hts inlX6 hown hK hP 0 rfl rfl 13 (by decide) (hts (.fieldLink RX6 42 "SquarePlanesModel" "lesser" "[I") mw_7_18) (fun _ h9 => h9) rfl dX6_pairOf_49 ?_
                refine lv_iload_n hx hb dX6_pairOf_52 rfl (lv_at hl 3 rfl) ?_
                refine va_iald hx hb hK hP 10 0 rfl rfl hw.1 dX6_pairOf_53 ?_
                have hw := hw.2
                refine lv_iload_n hx hb dX6_pairOf_54 rfl (lv_at hl 2 rfl) ?_
                refine lv_icmp_ne (tgt := 70) hx hb dX6_pairOf_55 (by decide) (fun c4_20 => ?_) (fun c4_20 => ?_)
                · have hw := hw.2 c4_20
                  refine lv_iinc (v := y3_20 + 1) (lv' := [(3, .int (y3_20 + 1)), (0, .ref hMo), (1, .int p0), (2, .int p1)]) hx hb dX6_pairOf_70 hl (k := 3) rfl rfl (by decide) rfl (fun ls hl => ?_)
                  refine lv_goto (tgt := 20) hx hb dX6_pairOf_73 (by decide) ?_
                  exact ih20 (y3_20 + 1) ls hw (lv_sub hl [1, 2, 3, 0] rfl)
                · have hw := hw.1 c4_20
                  refine lv_aload_n hx hb dX6_pairOf_58 rfl (lv_at hl 0 rfl) ?_
                  refine va_get (D := D) (ci := 6) (v := .ref hMo_greater) (C := RX6) (T := TX6) (N := 32) hx hb hts inlX6 hown hK hP 0 rfl rfl 14 (by decide) (hts (.fieldLink RX6 45 "SquarePlanesModel" "greater" "[I") mw_7_19) (fun _ h9 => h9) rfl dX6_pairOf_59 ?_
                  refine lv_iload_n hx hb dX6_pairOf_62 rfl (lv_at hl 3 rfl) ?_
                  refine va_iald hx hb hK hP 11 0 rfl rfl hw.1 dX6_pairOf_63 ?_
                  have hw := hw.2
                  refine lv_iload_n hx hb dX6_pairOf_64 rfl (lv_at hl 1 rfl) ?_
                  refine lv_icmp_ne (tgt := 70) hx hb dX6_pairOf_65 (by decide) (fun c3_20 => ?_) (fun c3_20 => ?_)
                  · have hw := hw.2 c3_20
                    refine lv_iinc (v := y3_20 + 1) (lv' := [(3, .int (y3_20 + 1)), (0, .ref hMo), (1, .int p0), (2, .int p1)]) hx hb dX6_pairOf_70 hl (k := 3) rfl rfl (by decide) rfl (fun ls hl => ?_)
                    refine lv_goto (tgt := 20) hx hb dX6_pairOf_73 (by decide) ?_
                    exact ih20 (y3_20 + 1) ls hw (lv_sub hl [1, 2, 3, 0] rfl)
                  · have hw := hw.1 c3_20
                    exact hk20_68 y3_20 ls hw (lv_sub hl [0, 1, 2, 3] rfl)
      refine kl20 _ _ ?_ ?_ n20 0 ls hw (lv_sub hl [1, 2, 3, 0] rfl)
      · intro y3_20 ls hw hl
        refine lv_bipush (v := (-9)) hx hb dX6_pairOf_76 (by decide) ?_
        exact W.iret (v := (-9)) hx hb hr (fun t ht hW => ⟨(-9), rfl, hw, ht⟩) (fun q h => by cases h) dX6_pairOf_78
      · intro y3_20 ls hw hl
        refine lv_iload_n hx hb dX6_pairOf_68 rfl (lv_at hl 3 rfl) ?_
        exact W.iret (v := y3_20) hx hb hr (fun t ht hW => ⟨y3_20, rfl, hw, ht⟩) (fun q h => by cases h) dX6_pairOf_69
    · have hw := hw.1 c3
      refine lv_iconst (v := (-1)) hx hb dX6_pairOf_16 (by decide) ?_
      exact W.iret (v := (-1)) hx hb hr (fun t ht hW => ⟨(-1), rfl, hw, ht⟩) (fun q h => by cases h) dX6_pairOf_17
set_option maxHeartbeats 4000000 in
set_option maxRecDepth 100000 in
theorem k_X6_signHere (l : Launch) (D : va_G) (cy : Nat → ClassId) (hMo hMo_isThere hMo_stationX hMo_stationY hMo_stationZ hMo_told hMo_weight hMo_poleX hMo_poleY hMo_poleZ hMo_lesser hMo_greater hMo_misfit hMo_nodal hMo_order hMo_placeOf hMo_unlikeX hMo_unlikeY hMo_unlikeZ hMo_farUp hMo_farDown hMo_axisOf : Nat) (Mo_isThere : Nat → Int32) (Mo_stationX : Nat → Int32) (Mo_stationY : Nat → Int32) (Mo_stationZ : Nat → Int32) (Mo_told : Nat → Int32) (Mo_weight : Nat → Int32) (Mo_size : Int32) (Mo_extra : Int32) (Mo_poles : Int32) (Mo_poleX : Nat → Int32) (Mo_poleY : Nat → Int32) (Mo_poleZ : Nat → Int32) (Mo_pairs : Int32) (Mo_lesser : Nat → Int32) (Mo_greater : Nat → Int32) (Mo_isKnown : Int32) (Mo_least : Int32) (Mo_kept : Int32) (Mo_misfit : Nat → Int32) (Mo_nodal : Nat → Int32) (Mo_order : Nat → Int32) (Mo_placeOf : Nat → Int32) (Mo_axisX : Int32) (Mo_axisY : Int32) (Mo_axisZ : Int32) (Mo_axes : Int32) (Mo_unlikeX : Nat → Int32) (Mo_unlikeY : Nat → Int32) (Mo_unlikeZ : Nat → Int32) (Mo_farUp : Nat → Int64) (Mo_farDown : Nat → Int64) (Mo_axisOf : Nat → Int32) (p0 : Int32) (p1 : Int32) (p2 : Int32) (p3 : Int32) (sz : Nat) (Q : Int32 → Prop) (hw : wp_X6_signHere p0 p1 p2 p3 Mo_poleX Mo_poleY Mo_poleZ Mo_lesser Mo_greater Q) : Met l yX6_signHere (wA yX6_signHere cX6_signHere 6 (some .int)) { frames := 2, cells := 0, slots := 0, locals := 44 } (kPc [.ref hMo, .int p0, .int p1, .int p2, .int p3] D cy (List.flatten [wMo cy hMo hMo_isThere hMo_stationX hMo_stationY hMo_stationZ hMo_told hMo_weight hMo_poleX hMo_poleY hMo_poleZ hMo_lesser hMo_greater hMo_misfit hMo_nodal hMo_order hMo_placeOf hMo_unlikeX hMo_unlikeY hMo_unlikeZ hMo_farUp hMo_farDown hMo_axisOf Mo_isThere Mo_stationX Mo_stationY Mo_stationZ Mo_told Mo_weight Mo_size Mo_extra Mo_poles Mo_poleX Mo_poleY Mo_poleZ Mo_pairs Mo_lesser Mo_greater Mo_isKnown Mo_least Mo_kept Mo_misfit Mo_nodal Mo_order Mo_placeOf Mo_axisX Mo_axisY Mo_axisZ Mo_axes Mo_unlikeX Mo_unlikeY Mo_unlikeZ Mo_farUp Mo_farDown Mo_axisOf]) sz) (kSi Q) 0 0 (fun _ => False) := by
  refine Met.ofW (cc := cX6_signHere) (maxL := 6) (ret := (some .int)) (by decide) rfl ?_
  intro p e s m args below meth c s₁ B hml hv
  obtain ⟨rfl, hsz, hN, hP, hK, hD0⟩ := hv
  have hx := B.exec
  have hb := B.bytes
  have hr := B.returns
  have hts0 := atoms_spec (ws := wA yX6_signHere cX6_signHere 6 (some .int)) B.pre
  have hts := fun w (h : w ∈ wsL_law) => hts0 w (List.mem_cons_of_mem _ h)
  have hown : s.vm.findClass RX6 = some m.cls := findClass_of_methodNamed B.named
  have hlocks := B.notSynchronized
  subst hsz
  have hD := hD0
  have hl := lv_entry ([.ref hMo, .int p0, .int p1, .int p2, .int p3]) (n := 6) (Nat.le_of_ble_eq_true rfl)
  rw [lg_entry_eq]
  generalize (lg_sl ([.ref hMo, .int p0, .int p1, .int p2, .int p3]) ++ List.replicate (6 - (lg_sl ([.ref hMo, .int p0, .int p1, .int p2, .int p3])).length) Slot.unset).toArray = ls at hl ⊢
  have hl : lv_has ls 6 [(0, .ref hMo), (1, .int p0), (2, .int p1), (3, .int p2), (4, .int p3)] := hl
  unfold wp_X6_signHere at hw
  refine lv_iload_n hx hb dX6_signHere_0 rfl (lv_at hl 1 rfl) ?_
  refine lv_iconst (v := 2) hx hb dX6_signHere_1 (by decide) ?_
  refine lv_irem hx hb dX6_signHere_2 (by decide) ?_
  refine lv_if_ne (tgt := 10) hx hb dX6_signHere_3 (by decide) (fun c5 => ?_) (fun c5 => ?_)
  · have hw := hw.2 c5
    refine lv_iconst (v := (-1)) hx hb dX6_signHere_10 (by decide) ?_
    refine lv_istore (lv' := [(5, .int (-1)), (0, .ref hMo), (1, .int p0), (2, .int p1), (3, .int p2), (4, .int p3)]) hx hb dX6_signHere_11 hl (by decide) rfl (fun ls hl => ?_)
    refine lv_iload hx hb dX6_signHere_13 (lv_at hl 0 rfl) ?_
    refine lv_aload_n hx hb dX6_signHere_15 rfl (lv_at hl 1 rfl) ?_
    refine lv_aload_n hx hb dX6_signHere_16 rfl (lv_at hl 1 rfl) ?_
    refine va_get (D := D) (ci := 6) (v := .ref hMo_lesser) (C := RX6) (T := TX6) (N := 32) hx hb hts inlX6 hown hK hP 0 rfl rfl 13 (by decide) (hts (.fieldLink RX6 42 "SquarePlanesModel" "lesser" "[I") mw_7_18) (fun _ h9 => h9) rfl dX6_signHere_17 ?_
    refine lv_iload_n hx hb dX6_signHere_20 rfl (lv_at hl 2 rfl) ?_
    refine lv_iconst (v := 2) hx hb dX6_signHere_21 (by decide) ?_
    refine lv_idiv hx hb dX6_signHere_22 (by decide) ?_
    refine va_iald hx hb hK hP 10 0 rfl rfl hw.1 dX6_signHere_23 ?_
    have hw := hw.2
    refine lv_iload_n hx hb dX6_signHere_24 rfl (lv_at hl 3 rfl) ?_
    refine lv_iload_n hx hb dX6_signHere_25 rfl (lv_at hl 4 rfl) ?_
    refine lv_iload hx hb dX6_signHere_26 (lv_at hl 5 rfl) ?_
    refine kc_i (va_runV (As := [.int (Mo_lesser (p0 / 2).toNatClampNeg), .int p1, .int p2, .int p3]) (rest := [.int (-1)]) ⟨hx, hb, hml, hown, hts⟩ (k_X6_poleSign l D cy hMo hMo_isThere hMo_stationX hMo_stationY hMo_stationZ hMo_told hMo_weight hMo_poleX hMo_poleY hMo_poleZ hMo_lesser hMo_greater hMo_misfit hMo_nodal hMo_order hMo_placeOf hMo_unlikeX hMo_unlikeY hMo_unlikeZ hMo_farUp hMo_farDown hMo_axisOf Mo_isThere Mo_stationX Mo_stationY Mo_stationZ Mo_told Mo_weight Mo_size Mo_extra Mo_poles Mo_poleX Mo_poleY Mo_poleZ Mo_pairs Mo_lesser Mo_greater Mo_isKnown Mo_least Mo_kept Mo_misfit Mo_nodal Mo_order Mo_placeOf Mo_axisX Mo_axisY Mo_axisZ Mo_axes Mo_unlikeX Mo_unlikeY Mo_unlikeZ Mo_farUp Mo_farDown Mo_axisOf (Mo_lesser (p0 / 2).toNatClampNeg) p1 p2 p3 _ _ hw) (cwV 4 hts (gV mw_17_9 mw_17_10 mw_17_11 mw_1_5 mw_17_12) rfl rfl rfl (by decide +kernel) ⟨Nat.le_of_ble_eq_true rfl, Nat.le_of_ble_eq_true rfl⟩) (fPreV hN hK hP hD [0] rfl rfl 0 (ci := 6) rfl rfl rfl _) rfl rfl hl.1 rfl (lv_room (Nat.le_of_ble_eq_true rfl)) dX6_signHere_28 ⟨Nat.zero_le _, Nat.zero_le _⟩) (fun r1 hw => ?_)
    refine lv_imul hx hb dX6_signHere_31 ?_
    refine lv_aload_n hx hb dX6_signHere_32 rfl (lv_at hl 1 rfl) ?_
    refine lv_aload_n hx hb dX6_signHere_33 rfl (lv_at hl 1 rfl) ?_
    refine va_get (D := D) (ci := 6) (v := .ref hMo_greater) (C := RX6) (T := TX6) (N := 32) hx hb hts inlX6 hown hK hP 0 rfl rfl 14 (by decide) (hts (.fieldLink RX6 45 "SquarePlanesModel" "greater" "[I") mw_7_19) (fun _ h9 => h9) rfl dX6_signHere_34 ?_
    refine lv_iload_n hx hb dX6_signHere_37 rfl (lv_at hl 2 rfl) ?_
    refine lv_iconst (v := 2) hx hb dX6_signHere_38 (by decide) ?_
    refine lv_idiv hx hb dX6_signHere_39 (by decide) ?_
    refine va_iald hx hb hK hP 11 0 rfl rfl hw.1 dX6_signHere_40 ?_
    have hw := hw.2
    refine lv_iload_n hx hb dX6_signHere_41 rfl (lv_at hl 3 rfl) ?_
    refine lv_iload_n hx hb dX6_signHere_42 rfl (lv_at hl 4 rfl) ?_
    refine lv_iload hx hb dX6_signHere_43 (lv_at hl 5 rfl) ?_
    refine kc_i (va_runV (As := [.int (Mo_greater (p0 / 2).toNatClampNeg), .int p1, .int p2, .int p3]) (rest := [.int ((-1) * r1)]) ⟨hx, hb, hml, hown, hts⟩ (k_X6_poleSign l D cy hMo hMo_isThere hMo_stationX hMo_stationY hMo_stationZ hMo_told hMo_weight hMo_poleX hMo_poleY hMo_poleZ hMo_lesser hMo_greater hMo_misfit hMo_nodal hMo_order hMo_placeOf hMo_unlikeX hMo_unlikeY hMo_unlikeZ hMo_farUp hMo_farDown hMo_axisOf Mo_isThere Mo_stationX Mo_stationY Mo_stationZ Mo_told Mo_weight Mo_size Mo_extra Mo_poles Mo_poleX Mo_poleY Mo_poleZ Mo_pairs Mo_lesser Mo_greater Mo_isKnown Mo_least Mo_kept Mo_misfit Mo_nodal Mo_order Mo_placeOf Mo_axisX Mo_axisY Mo_axisZ Mo_axes Mo_unlikeX Mo_unlikeY Mo_unlikeZ Mo_farUp Mo_farDown Mo_axisOf (Mo_greater (p0 / 2).toNatClampNeg) p1 p2 p3 _ _ hw) (cwV 4 hts (gV mw_17_9 mw_17_10 mw_17_11 mw_1_5 mw_17_12) rfl rfl rfl (by decide +kernel) ⟨Nat.le_of_ble_eq_true rfl, Nat.le_of_ble_eq_true rfl⟩) (fPreV hN hK hP hD [0] rfl rfl 0 (ci := 6) rfl rfl rfl _) rfl rfl hl.1 rfl (lv_room (Nat.le_of_ble_eq_true rfl)) dX6_signHere_45 ⟨Nat.zero_le _, Nat.zero_le _⟩) (fun r2 hw => ?_)
    refine lv_imul hx hb dX6_signHere_48 ?_
    exact W.iret (v := ((-1) * r1) * r2) hx hb hr (fun t ht hW => ⟨((-1) * r1) * r2, rfl, hw, ht⟩) (fun q h => by cases h) dX6_signHere_49
  · have hw := hw.1 c5
    refine lv_iconst (v := 1) hx hb dX6_signHere_6 (by decide) ?_
    refine lv_goto (tgt := 11) hx hb dX6_signHere_7 (by decide) ?_
    refine lv_istore (lv' := [(5, .int 1), (0, .ref hMo), (1, .int p0), (2, .int p1), (3, .int p2), (4, .int p3)]) hx hb dX6_signHere_11 hl (by decide) rfl (fun ls hl => ?_)
    refine lv_iload hx hb dX6_signHere_13 (lv_at hl 0 rfl) ?_
    refine lv_aload_n hx hb dX6_signHere_15 rfl (lv_at hl 1 rfl) ?_
    refine lv_aload_n hx hb dX6_signHere_16 rfl (lv_at hl 1 rfl) ?_
    refine va_get (D := D) (ci := 6) (v := .ref hMo_lesser) (C := RX6) (T := TX6) (N := 32) hx hb hts inlX6 hown hK hP 0 rfl rfl 13 (by decide) (hts (.fieldLink RX6 42 "SquarePlanesModel" "lesser" "[I") mw_7_18) (fun _ h9 => h9) rfl dX6_signHere_17 ?_
    refine lv_iload_n hx hb dX6_signHere_20 rfl (lv_at hl 2 rfl) ?_
    refine lv_iconst (v := 2) hx hb dX6_signHere_21 (by decide) ?_
    refine lv_idiv hx hb dX6_signHere_22 (by decide) ?_
    refine va_iald hx hb hK hP 10 0 rfl rfl hw.1 dX6_signHere_23 ?_
    have hw := hw.2
    refine lv_iload_n hx hb dX6_signHere_24 rfl (lv_at hl 3 rfl) ?_
    refine lv_iload_n hx hb dX6_signHere_25 rfl (lv_at hl 4 rfl) ?_
    refine lv_iload hx hb dX6_signHere_26 (lv_at hl 5 rfl) ?_
    refine kc_i (va_runV (As := [.int (Mo_lesser (p0 / 2).toNatClampNeg), .int p1, .int p2, .int p3]) (rest := [.int 1]) ⟨hx, hb, hml, hown, hts⟩ (k_X6_poleSign l D cy hMo hMo_isThere hMo_stationX hMo_stationY hMo_stationZ hMo_told hMo_weight hMo_poleX hMo_poleY hMo_poleZ hMo_lesser hMo_greater hMo_misfit hMo_nodal hMo_order hMo_placeOf hMo_unlikeX hMo_unlikeY hMo_unlikeZ hMo_farUp hMo_farDown hMo_axisOf Mo_isThere Mo_stationX Mo_stationY Mo_stationZ Mo_told Mo_weight Mo_size Mo_extra Mo_poles Mo_poleX Mo_poleY Mo_poleZ Mo_pairs Mo_lesser Mo_greater Mo_isKnown Mo_least Mo_kept Mo_misfit Mo_nodal Mo_order Mo_placeOf Mo_axisX Mo_axisY Mo_axisZ Mo_axes Mo_unlikeX Mo_unlikeY Mo_unlikeZ Mo_farUp Mo_farDown Mo_axisOf (Mo_lesser (p0 / 2).toNatClampNeg) p1 p2 p3 _ _ hw) (cwV 4 hts (gV mw_17_9 mw_17_10 mw_17_11 mw_1_5 mw_17_12) rfl rfl rfl (by decide +kernel) ⟨Nat.le_of_ble_eq_true rfl, Nat.le_of_ble_eq_true rfl⟩) (fPreV hN hK hP hD [0] rfl rfl 0 (ci := 6) rfl rfl rfl _) rfl rfl hl.1 rfl (lv_room (Nat.le_of_ble_eq_true rfl)) dX6_signHere_28 ⟨Nat.zero_le _, Nat.zero_le _⟩) (fun r3 hw => ?_)
    refine lv_imul hx hb dX6_signHere_31 ?_
    refine lv_aload_n hx hb dX6_signHere_32 rfl (lv_at hl 1 rfl) ?_
    refine lv_aload_n hx hb dX6_signHere_33 rfl (lv_at hl 1 rfl) ?_
    refine va_get (D := D) (ci := 6) (v := .ref hMo_greater) (C := RX6) (T := TX6) (N := 32) hx hb hts inlX6 hown hK hP 0 rfl rfl 14 (by decide) (hts (.fieldLink RX6 45 "SquarePlanesModel" "greater" "[I") mw_7_19) (fun _ h9 => h9) rfl dX6_signHere_34 ?_
    refine lv_iload_n hx hb dX6_signHere_37 rfl (lv_at hl 2 rfl) ?_
    refine lv_iconst (v := 2) hx hb dX6_signHere_38 (by decide) ?_
    refine lv_idiv hx hb dX6_signHere_39 (by decide) ?_
    refine va_iald hx hb hK hP 11 0 rfl rfl hw.1 dX6_signHere_40 ?_
    have hw := hw.2
    refine lv_iload_n hx hb dX6_signHere_41 rfl (lv_at hl 3 rfl) ?_
    refine lv_iload_n hx hb dX6_signHere_42 rfl (lv_at hl 4 rfl) ?_
    refine lv_iload hx hb dX6_signHere_43 (lv_at hl 5 rfl) ?_
    refine kc_i (va_runV (As := [.int (Mo_greater (p0 / 2).toNatClampNeg), .int p1, .int p2, .int p3]) (rest := [.int (1 * r3)]) ⟨hx, hb, hml, hown, hts⟩ (k_X6_poleSign l D cy hMo hMo_isThere hMo_stationX hMo_stationY hMo_stationZ hMo_told hMo_weight hMo_poleX hMo_poleY hMo_poleZ hMo_lesser hMo_greater hMo_misfit hMo_nodal hMo_order hMo_placeOf hMo_unlikeX hMo_unlikeY hMo_unlikeZ hMo_farUp hMo_farDown hMo_axisOf Mo_isThere Mo_stationX Mo_stationY Mo_stationZ Mo_told Mo_weight Mo_size Mo_extra Mo_poles Mo_poleX Mo_poleY Mo_poleZ Mo_pairs Mo_lesser Mo_greater Mo_isKnown Mo_least Mo_kept Mo_misfit Mo_nodal Mo_order Mo_placeOf Mo_axisX Mo_axisY Mo_axisZ Mo_axes Mo_unlikeX Mo_unlikeY Mo_unlikeZ Mo_farUp Mo_farDown Mo_axisOf (Mo_greater (p0 / 2).toNatClampNeg) p1 p2 p3 _ _ hw) (cwV 4 hts (gV mw_17_9 mw_17_10 mw_17_11 mw_1_5 mw_17_12) rfl rfl rfl (by decide +kernel) ⟨Nat.le_of_ble_eq_true rfl, Nat.le_of_ble_eq_true rfl⟩) (fPreV hN hK hP hD [0] rfl rfl 0 (ci := 6) rfl rfl rfl _) rfl rfl hl.1 rfl (lv_room (Nat.le_of_ble_eq_true rfl)) dX6_signHere_45 ⟨Nat.zero_le _, Nat.zero_le _⟩) (fun r4 hw => ?_)
    refine lv_imul hx hb dX6_signHere_48 ?_
    exact W.iret (v := (1 * r3) * r4) hx hb hr (fun t ht hW => ⟨(1 * r3) * r4, rfl, hw, ht⟩) (fun q h => by cases h) dX6_signHere_49
set_option maxHeartbeats 4000000 in
set_option maxRecDepth 100000 in
theorem k_X6_findAxis (l : Launch) (D : va_G) (cy : Nat → ClassId) (hMo hMo_isThere hMo_stationX hMo_stationY hMo_stationZ hMo_told hMo_weight hMo_poleX hMo_poleY hMo_poleZ hMo_lesser hMo_greater hMo_misfit hMo_nodal hMo_order hMo_placeOf hMo_unlikeX hMo_unlikeY hMo_unlikeZ hMo_farUp hMo_farDown hMo_axisOf : Nat) (Mo_isThere : Nat → Int32) (Mo_stationX : Nat → Int32) (Mo_stationY : Nat → Int32) (Mo_stationZ : Nat → Int32) (Mo_told : Nat → Int32) (Mo_weight : Nat → Int32) (Mo_size : Int32) (Mo_extra : Int32) (Mo_poles : Int32) (Mo_poleX : Nat → Int32) (Mo_poleY : Nat → Int32) (Mo_poleZ : Nat → Int32) (Mo_pairs : Int32) (Mo_lesser : Nat → Int32) (Mo_greater : Nat → Int32) (Mo_isKnown : Int32) (Mo_least : Int32) (Mo_kept : Int32) (Mo_misfit : Nat → Int32) (Mo_nodal : Nat → Int32) (Mo_order : Nat → Int32) (Mo_placeOf : Nat → Int32) (Mo_axisX : Int32) (Mo_axisY : Int32) (Mo_axisZ : Int32) (Mo_axes : Int32) (Mo_unlikeX : Nat → Int32) (Mo_unlikeY : Nat → Int32) (Mo_unlikeZ : Nat → Int32) (Mo_farUp : Nat → Int64) (Mo_farDown : Nat → Int64) (Mo_axisOf : Nat → Int32) (p0 : Int32) (sz : Nat) (Q : Int32 → Int32 → Int32 → Prop) (hw : wp_X6_findAxis p0 Mo_poleX Mo_poleY Mo_poleZ Mo_lesser Mo_greater Mo_axisX Mo_axisY Mo_axisZ Q) : Met l yX6_findAxis (wA yX6_findAxis cX6_findAxis 8 none) { frames := 2, cells := 0, slots := 0, locals := 42 } (kPc [.ref hMo, .int p0] D cy (List.flatten [wMo cy hMo hMo_isThere hMo_stationX hMo_stationY hMo_stationZ hMo_told hMo_weight hMo_poleX hMo_poleY hMo_poleZ hMo_lesser hMo_greater hMo_misfit hMo_nodal hMo_order hMo_placeOf hMo_unlikeX hMo_unlikeY hMo_unlikeZ hMo_farUp hMo_farDown hMo_axisOf Mo_isThere Mo_stationX Mo_stationY Mo_stationZ Mo_told Mo_weight Mo_size Mo_extra Mo_poles Mo_poleX Mo_poleY Mo_poleZ Mo_pairs Mo_lesser Mo_greater Mo_isKnown Mo_least Mo_kept Mo_misfit Mo_nodal Mo_order Mo_placeOf Mo_axisX Mo_axisY Mo_axisZ Mo_axes Mo_unlikeX Mo_unlikeY Mo_unlikeZ Mo_farUp Mo_farDown Mo_axisOf]) sz) (va_Qv (fun (u : Int32 × Int32 × Int32) => Q u.1 u.2.1 u.2.2) (fun u t => kB D cy (va_A (List.flatten [wMo cy hMo hMo_isThere hMo_stationX hMo_stationY hMo_stationZ hMo_told hMo_weight hMo_poleX hMo_poleY hMo_poleZ hMo_lesser hMo_greater hMo_misfit hMo_nodal hMo_order hMo_placeOf hMo_unlikeX hMo_unlikeY hMo_unlikeZ hMo_farUp hMo_farDown hMo_axisOf Mo_isThere Mo_stationX Mo_stationY Mo_stationZ Mo_told Mo_weight Mo_size Mo_extra Mo_poles Mo_poleX Mo_poleY Mo_poleZ Mo_pairs Mo_lesser Mo_greater Mo_isKnown Mo_least Mo_kept Mo_misfit Mo_nodal Mo_order Mo_placeOf Mo_axisX Mo_axisY Mo_axisZ Mo_axes Mo_unlikeX Mo_unlikeY Mo_unlikeZ Mo_farUp Mo_farDown Mo_axisOf]) sz) (List.flatten [wMo cy hMo hMo_isThere hMo_stationX hMo_stationY hMo_stationZ hMo_told hMo_weight hMo_poleX hMo_poleY hMo_poleZ hMo_lesser hMo_greater hMo_misfit hMo_nodal hMo_order hMo_placeOf hMo_unlikeX hMo_unlikeY hMo_unlikeZ hMo_farUp hMo_farDown hMo_axisOf Mo_isThere Mo_stationX Mo_stationY Mo_stationZ Mo_told Mo_weight Mo_size Mo_extra Mo_poles Mo_poleX Mo_poleY Mo_poleZ Mo_pairs Mo_lesser Mo_greater Mo_isKnown Mo_least Mo_kept Mo_misfit Mo_nodal Mo_order Mo_placeOf u.1 u.2.1 u.2.2 Mo_axes Mo_unlikeX Mo_unlikeY Mo_unlikeZ Mo_farUp Mo_farDown Mo_axisOf]) t) (va_A (List.flatten [wMo cy hMo hMo_isThere hMo_stationX hMo_stationY hMo_stationZ hMo_told hMo_weight hMo_poleX hMo_poleY hMo_poleZ hMo_lesser hMo_greater hMo_misfit hMo_nodal hMo_order hMo_placeOf hMo_unlikeX hMo_unlikeY hMo_unlikeZ hMo_farUp hMo_farDown hMo_axisOf Mo_isThere Mo_stationX Mo_stationY Mo_stationZ Mo_told Mo_weight Mo_size Mo_extra Mo_poles Mo_poleX Mo_poleY Mo_poleZ Mo_pairs Mo_lesser Mo_greater Mo_isKnown Mo_least Mo_kept Mo_misfit Mo_nodal Mo_order Mo_placeOf Mo_axisX Mo_axisY Mo_axisZ Mo_axes Mo_unlikeX Mo_unlikeY Mo_unlikeZ Mo_farUp Mo_farDown Mo_axisOf]) sz)) 0 0 (va_A (List.flatten [wMo cy hMo hMo_isThere hMo_stationX hMo_stationY hMo_stationZ hMo_told hMo_weight hMo_poleX hMo_poleY hMo_poleZ hMo_lesser hMo_greater hMo_misfit hMo_nodal hMo_order hMo_placeOf hMo_unlikeX hMo_unlikeY hMo_unlikeZ hMo_farUp hMo_farDown hMo_axisOf Mo_isThere Mo_stationX Mo_stationY Mo_stationZ Mo_told Mo_weight Mo_size Mo_extra Mo_poles Mo_poleX Mo_poleY Mo_poleZ Mo_pairs Mo_lesser Mo_greater Mo_isKnown Mo_least Mo_kept Mo_misfit Mo_nodal Mo_order Mo_placeOf Mo_axisX Mo_axisY Mo_axisZ Mo_axes Mo_unlikeX Mo_unlikeY Mo_unlikeZ Mo_farUp Mo_farDown Mo_axisOf]) sz) := by
  refine Met.ofW (cc := cX6_findAxis) (maxL := 8) (ret := none) (by decide) rfl ?_
  intro p e s m args below meth c s₁ B hml hv
  obtain ⟨rfl, hsz, hN, hP, hK, hD0⟩ := hv
  have hx := B.exec
  have hb := B.bytes
  have hr := B.returns
  have hts0 := atoms_spec (ws := wA yX6_findAxis cX6_findAxis 8 none) B.pre
  have hts := fun w (h : w ∈ wsL_law) => hts0 w (List.mem_cons_of_mem _ h)
  have hown : s.vm.findClass RX6 = some m.cls := findClass_of_methodNamed B.named
  have hlocks := B.notSynchronized
  subst hsz
  have hD := hD0.self (sz := s.heap.size)
  generalize hAe : va_A (List.flatten [wMo cy hMo hMo_isThere hMo_stationX hMo_stationY hMo_stationZ hMo_told hMo_weight hMo_poleX hMo_poleY hMo_poleZ hMo_lesser hMo_greater hMo_misfit hMo_nodal hMo_order hMo_placeOf hMo_unlikeX hMo_unlikeY hMo_unlikeZ hMo_farUp hMo_farDown hMo_axisOf Mo_isThere Mo_stationX Mo_stationY Mo_stationZ Mo_told Mo_weight Mo_size Mo_extra Mo_poles Mo_poleX Mo_poleY Mo_poleZ Mo_pairs Mo_lesser Mo_greater Mo_isKnown Mo_least Mo_kept Mo_misfit Mo_nodal Mo_order Mo_placeOf Mo_axisX Mo_axisY Mo_axisZ Mo_axes Mo_unlikeX Mo_unlikeY Mo_unlikeZ Mo_farUp Mo_farDown Mo_axisOf]) s.heap.size = A at hD ⊢
  have hA : ∀ q : Nat, s.heap.size ≤ q → A q := fun q h => by rw [← hAe]; exact Or.inr h
  have hS : va_S A s.heap s.heap [] := va_S.rf
  have hP : va_P D vwCl (List.flatten [wMo cy hMo hMo_isThere hMo_stationX hMo_stationY hMo_stationZ hMo_told hMo_weight hMo_poleX hMo_poleY hMo_poleZ hMo_lesser hMo_greater hMo_misfit hMo_nodal hMo_order hMo_placeOf hMo_unlikeX hMo_unlikeY hMo_unlikeZ hMo_farUp hMo_farDown hMo_axisOf Mo_isThere Mo_stationX Mo_stationY Mo_stationZ Mo_told Mo_weight Mo_size Mo_extra Mo_poles Mo_poleX Mo_poleY Mo_poleZ Mo_pairs Mo_lesser Mo_greater Mo_isKnown Mo_least Mo_kept Mo_misfit Mo_nodal Mo_order Mo_placeOf Mo_axisX Mo_axisY Mo_axisZ Mo_axes Mo_unlikeX Mo_unlikeY Mo_unlikeZ Mo_farUp Mo_farDown Mo_axisOf]) s.heap := hP
  have hl := lv_entry ([.ref hMo, .int p0]) (n := 8) (Nat.le_of_ble_eq_true rfl)
  rw [lg_entry_eq]
  generalize (lg_sl ([.ref hMo, .int p0]) ++ List.replicate (8 - (lg_sl ([.ref hMo, .int p0])).length) Slot.unset).toArray = ls at hl ⊢
  have hl : lv_has ls 8 [(0, .ref hMo), (1, .int p0)] := hl
  unfold wp_X6_findAxis at hw
  refine lv_aload_n hx hb dX6_findAxis_0 rfl (lv_at hl 0 rfl) ?_
  refine va_get (D := D) (ci := 6) (v := .ref hMo_lesser) (C := RX6) (T := TX6) (N := 32) hx hb hts inlX6 hown hK hP 0 rfl rfl 13 (by decide) (hts (.fieldLink RX6 42 "SquarePlanesModel" "lesser" "[I") mw_7_18) (fun _ h9 => h9) rfl dX6_findAxis_1 ?_
  refine lv_iload_n hx hb dX6_findAxis_4 rfl (lv_at hl 1 rfl) ?_
  refine lv_iconst (v := 2) hx hb dX6_findAxis_5 (by decide) ?_
  refine lv_idiv hx hb dX6_findAxis_6 (by decide) ?_
  refine va_iald hx hb hK hP 10 0 rfl rfl hw.1 dX6_findAxis_7 ?_
  have hw := hw.2
  refine lv_topi (fun x1 ex1 => ?_)
  have hw := hw x1 ex1
  refine lv_istore_n (lv' := [(2, .int x1), (0, .ref hMo), (1, .int p0)]) hx hb dX6_findAxis_8 rfl hl (by decide) rfl (fun ls hl => ?_)
  refine lv_aload_n hx hb dX6_findAxis_9 rfl (lv_at hl 1 rfl) ?_
  refine va_get (D := D) (ci := 6) (v := .ref hMo_greater) (C := RX6) (T := TX6) (N := 32) hx hb hts inlX6 hown hK hP 0 rfl rfl 14 (by decide) (hts (.fieldLink RX6 45 "SquarePlanesModel" "greater" "[I") mw_7_19) (fun _ h9 => h9) rfl dX6_findAxis_10 ?_
  refine lv_iload_n hx hb dX6_findAxis_13 rfl (lv_at hl 2 rfl) ?_
  refine lv_iconst (v := 2) hx hb dX6_findAxis_14 (by decide) ?_
  refine lv_idiv hx hb dX6_findAxis_15 (by decide) ?_
  refine va_iald hx hb hK hP 11 0 rfl rfl hw.1 dX6_findAxis_16 ?_
  have hw := hw.2
  refine lv_topi (fun x2 ex2 => ?_)
  have hw := hw x2 ex2
  refine lv_istore_n (lv' := [(3, .int x2), (2, .int x1), (0, .ref hMo), (1, .int p0)]) hx hb dX6_findAxis_17 rfl hl (by decide) rfl (fun ls hl => ?_)
  refine lv_aload_n hx hb dX6_findAxis_18 rfl (lv_at hl 2 rfl) ?_
  refine va_get (D := D) (ci := 6) (v := .ref hMo_poleY) (C := RX6) (T := TX6) (N := 32) hx hb hts inlX6 hown hK hP 0 rfl rfl 10 (by decide) (hts (.fieldLink RX6 36 "SquarePlanesModel" "poleY" "[I") mw_7_16) (fun _ h9 => h9) rfl dX6_findAxis_19 ?_
  refine lv_iload_n hx hb dX6_findAxis_22 rfl (lv_at hl 1 rfl) ?_
  refine va_iald hx hb hK hP 8 0 rfl rfl hw.1 dX6_findAxis_23 ?_
  have hw := hw.2
  refine lv_aload_n hx hb dX6_findAxis_24 rfl (lv_at hl 2 rfl) ?_
  refine va_get (D := D) (ci := 6) (v := .ref hMo_poleZ) (C := RX6) (T := TX6) (N := 32) hx hb hts inlX6 hown hK hP 0 rfl rfl 11 (by decide) (hts (.fieldLink RX6 39 "SquarePlanesModel" "poleZ" "[I") mw_7_17) (fun _ h9 => h9) rfl dX6_findAxis_25 ?_
  refine lv_iload_n hx hb dX6_findAxis_28 rfl (lv_at hl 0 rfl) ?_
  refine va_iald hx hb hK hP 9 0 rfl rfl hw.1 dX6_findAxis_29 ?_
  have hw := hw.2
  refine lv_imul hx hb dX6_findAxis_30 ?_
  refine lv_aload_n hx hb dX6_findAxis_31 rfl (lv_at hl 2 rfl) ?_
  refine va_get (D := D) (ci := 6) (v := .ref hMo_poleZ) (C := RX6) (T := TX6) (N := 32) hx hb hts inlX6 hown hK hP 0 rfl rfl 11 (by decide) (hts (.fieldLink RX6 39 "SquarePlanesModel" "poleZ" "[I") mw_7_17) (fun _ h9 => h9) rfl dX6_findAxis_32 ?_
  refine lv_iload_n hx hb dX6_findAxis_35 rfl (lv_at hl 1 rfl) ?_
  refine va_iald hx hb hK hP 9 0 rfl rfl hw.1 dX6_findAxis_36 ?_
  have hw := hw.2
  refine lv_aload_n hx hb dX6_findAxis_37 rfl (lv_at hl 2 rfl) ?_
  refine va_get (D := D) (ci := 6) (v := .ref hMo_poleY) (C := RX6) (T := TX6) (N := 32) hx hb hts inlX6 hown hK hP 0 rfl rfl 10 (by decide) (hts (.fieldLink RX6 36 "SquarePlanesModel" "poleY" "[I") mw_7_16) (fun _ h9 => h9) rfl dX6_findAxis_38 ?_
  refine lv_iload_n hx hb dX6_findAxis_41 rfl (lv_at hl 0 rfl) ?_
  refine va_iald hx hb hK hP 8 0 rfl rfl hw.1 dX6_findAxis_42 ?_
  have hw := hw.2
  refine lv_imul hx hb dX6_findAxis_43 ?_
  refine lv_isub hx hb dX6_findAxis_44 ?_
  refine lv_topi (fun x3 ex3 => ?_)
  have hw := hw x3 ex3
  refine lv_istore (lv' := [(4, .int x3), (3, .int x2), (2, .int x1), (0, .ref hMo), (1, .int p0)]) hx hb dX6_findAxis_45 hl (by decide) rfl (fun ls hl => ?_)
  refine lv_aload_n hx hb dX6_findAxis_47 rfl (lv_at hl 3 rfl) ?_
  refine va_get (D := D) (ci := 6) (v := .ref hMo_poleZ) (C := RX6) (T := TX6) (N := 32) hx hb hts inlX6 hown hK hP 0 rfl rfl 11 (by decide) (hts (.fieldLink RX6 39 "SquarePlanesModel" "poleZ" "[I") mw_7_17) (fun _ h9 => h9) rfl dX6_findAxis_48 ?_
  refine lv_iload_n hx hb dX6_findAxis_51 rfl (lv_at hl 2 rfl) ?_
  refine va_iald hx hb hK hP 9 0 rfl rfl hw.1 dX6_findAxis_52 ?_
  have hw := hw.2
  refine lv_aload_n hx hb dX6_findAxis_53 rfl (lv_at hl 3 rfl) ?_
  refine va_get (D := D) (ci := 6) (v := .ref hMo_poleX) (C := RX6) (T := TX6) (N := 32) hx hb hts inlX6 hown hK hP 0 rfl rfl 9 (by decide) (hts (.fieldLink RX6 33 "SquarePlanesModel" "poleX" "[I") mw_7_15) (fun _ h9 => h9) rfl dX6_findAxis_54 ?_
  refine lv_iload_n hx hb dX6_findAxis_57 rfl (lv_at hl 1 rfl) ?_
  refine va_iald hx hb hK hP 7 0 rfl rfl hw.1 dX6_findAxis_58 ?_
  have hw := hw.2
  refine lv_imul hx hb dX6_findAxis_59 ?_
  refine lv_aload_n hx hb dX6_findAxis_60 rfl (lv_at hl 3 rfl) ?_
  refine va_get (D := D) (ci := 6) (v := .ref hMo_poleX) (C := RX6) (T := TX6) (N := 32) hx hb hts inlX6 hown hK hP 0 rfl rfl 9 (by decide) (hts (.fieldLink RX6 33 "SquarePlanesModel" "poleX" "[I") mw_7_15) (fun _ h9 => h9) rfl dX6_findAxis_61 ?_
  refine lv_iload_n hx hb dX6_findAxis_64 rfl (lv_at hl 2 rfl) ?_
  refine va_iald hx hb hK hP 7 0 rfl rfl hw.1 dX6_findAxis_65 ?_
  have hw := hw.2
  refine lv_aload_n hx hb dX6_findAxis_66 rfl (lv_at hl 3 rfl) ?_
  refine va_get (D := D) (ci := 6) (v := .ref hMo_poleZ) (C := RX6) (T := TX6) (N := 32) hx hb hts inlX6 hown hK hP 0 rfl rfl 11 (by decide) (hts (.fieldLink RX6 39 "SquarePlanesModel" "poleZ" "[I") mw_7_17) (fun _ h9 => h9) rfl dX6_findAxis_67 ?_
  refine lv_iload_n hx hb dX6_findAxis_70 rfl (lv_at hl 1 rfl) ?_
  refine va_iald hx hb hK hP 9 0 rfl rfl hw.1 dX6_findAxis_71 ?_
  have hw := hw.2
  refine lv_imul hx hb dX6_findAxis_72 ?_
  refine lv_isub hx hb dX6_findAxis_73 ?_
  refine lv_topi (fun x4 ex4 => ?_)
  have hw := hw x4 ex4
  refine lv_istore (lv' := [(5, .int x4), (4, .int x3), (3, .int x2), (2, .int x1), (0, .ref hMo), (1, .int p0)]) hx hb dX6_findAxis_74 hl (by decide) rfl (fun ls hl => ?_)
  refine lv_aload_n hx hb dX6_findAxis_76 rfl (lv_at hl 4 rfl) ?_
  refine va_get (D := D) (ci := 6) (v := .ref hMo_poleX) (C := RX6) (T := TX6) (N := 32) hx hb hts inlX6 hown hK hP 0 rfl rfl 9 (by decide) (hts (.fieldLink RX6 33 "SquarePlanesModel" "poleX" "[I") mw_7_15) (fun _ h9 => h9) rfl dX6_findAxis_77 ?_
  refine lv_iload_n hx hb dX6_findAxis_80 rfl (lv_at hl 3 rfl) ?_
  refine va_iald hx hb hK hP 7 0 rfl rfl hw.1 dX6_findAxis_81 ?_
  have hw := hw.2
  refine lv_aload_n hx hb dX6_findAxis_82 rfl (lv_at hl 4 rfl) ?_
  refine va_get (D := D) (ci := 6) (v := .ref hMo_poleY) (C := RX6) (T := TX6) (N := 32) hx hb hts inlX6 hown hK hP 0 rfl rfl 10 (by decide) (hts (.fieldLink RX6 36 "SquarePlanesModel" "poleY" "[I") mw_7_16) (fun _ h9 => h9) rfl dX6_findAxis_83 ?_
  refine lv_iload_n hx hb dX6_findAxis_86 rfl (lv_at hl 2 rfl) ?_
  refine va_iald hx hb hK hP 8 0 rfl rfl hw.1 dX6_findAxis_87 ?_
  have hw := hw.2
  refine lv_imul hx hb dX6_findAxis_88 ?_
  refine lv_aload_n hx hb dX6_findAxis_89 rfl (lv_at hl 4 rfl) ?_
  refine va_get (D := D) (ci := 6) (v := .ref hMo_poleY) (C := RX6) (T := TX6) (N := 32) hx hb hts inlX6 hown hK hP 0 rfl rfl 10 (by decide) (hts (.fieldLink RX6 36 "SquarePlanesModel" "poleY" "[I") mw_7_16) (fun _ h9 => h9) rfl dX6_findAxis_90 ?_
  refine lv_iload_n hx hb dX6_findAxis_93 rfl (lv_at hl 3 rfl) ?_
  refine va_iald hx hb hK hP 8 0 rfl rfl hw.1 dX6_findAxis_94 ?_
  have hw := hw.2
  refine lv_aload_n hx hb dX6_findAxis_95 rfl (lv_at hl 4 rfl) ?_
  refine va_get (D := D) (ci := 6) (v := .ref hMo_poleX) (C := RX6) (T := TX6) (N := 32) hx hb hts inlX6 hown hK hP 0 rfl rfl 9 (by decide) (hts (.fieldLink RX6 33 "SquarePlanesModel" "poleX" "[I") mw_7_15) (fun _ h9 => h9) rfl dX6_findAxis_96 ?_
  refine lv_iload_n hx hb dX6_findAxis_99 rfl (lv_at hl 2 rfl) ?_
  refine va_iald hx hb hK hP 7 0 rfl rfl hw.1 dX6_findAxis_100 ?_
  have hw := hw.2
  refine lv_imul hx hb dX6_findAxis_101 ?_
  refine lv_isub hx hb dX6_findAxis_102 ?_
  refine lv_topi (fun x5 ex5 => ?_)
  have hw := hw x5 ex5
  refine lv_istore (lv' := [(6, .int x5), (5, .int x4), (4, .int x3), (3, .int x2), (2, .int x1), (0, .ref hMo), (1, .int p0)]) hx hb dX6_findAxis_103 hl (by decide) rfl (fun ls hl => ?_)
  refine lv_iload hx hb dX6_findAxis_105 (lv_at hl 2 rfl) ?_
  refine lv_iload hx hb dX6_findAxis_107 (lv_at hl 1 rfl) ?_
  refine kc_i (va_runS (As := [.int x3, .int x4]) (rest := []) ⟨hx, hb, hml, hown, hts⟩ (k_X6_common l D cy x3 x4 _ _ hw) (va_cwS 2 hts (gS mw_9_3 mw_9_4 mw_1_5 mw_9_5) rfl rfl rfl (by decide +kernel) ⟨Nat.le_of_ble_eq_true rfl, Nat.le_of_ble_eq_true rfl⟩) (fPre hN hK hP hD [] rfl rfl _) rfl rfl hl.1 rfl (lv_room (Nat.le_of_ble_eq_true rfl)) dX6_findAxis_109 ⟨Nat.zero_le _, Nat.zero_le _⟩) (fun r6 hw => ?_)
  refine lv_iload hx hb dX6_findAxis_112 (lv_at hl 0 rfl) ?_
  refine kc_i (va_runS (As := [.int r6, .int x5]) (rest := []) ⟨hx, hb, hml, hown, hts⟩ (k_X6_common l D cy r6 x5 _ _ hw) (va_cwS 2 hts (gS mw_9_3 mw_9_4 mw_1_5 mw_9_5) rfl rfl rfl (by decide +kernel) ⟨Nat.le_of_ble_eq_true rfl, Nat.le_of_ble_eq_true rfl⟩) (fPre hN hK hP hD [] rfl rfl _) rfl rfl hl.1 rfl (lv_room (Nat.le_of_ble_eq_true rfl)) dX6_findAxis_114 ⟨Nat.zero_le _, Nat.zero_le _⟩) (fun r7 hw => ?_)
  refine lv_iload hx hb dX6_findAxis_117 (lv_at hl 2 rfl) ?_
  refine lv_iload hx hb dX6_findAxis_119 (lv_at hl 1 rfl) ?_
  refine lv_iload hx hb dX6_findAxis_121 (lv_at hl 0 rfl) ?_
  refine kc_i (va_runS (As := [.int x3, .int x4, .int x5]) (rest := [.int r7]) ⟨hx, hb, hml, hown, hts⟩ (k_X6_leading l D cy x3 x4 x5 _ _ hw) (va_cwS 3 hts (gS mw_8_21 mw_8_22 mw_1_5 mw_8_23) rfl rfl rfl (by decide +kernel) ⟨Nat.le_of_ble_eq_true rfl, Nat.le_of_ble_eq_true rfl⟩) (fPre hN hK hP hD [] rfl rfl _) rfl rfl hl.1 rfl (lv_room (Nat.le_of_ble_eq_true rfl)) dX6_findAxis_123 ⟨Nat.zero_le _, Nat.zero_le _⟩) (fun r8 hw => ?_)
  refine lv_imul hx hb dX6_findAxis_126 ?_
  refine lv_topi (fun x9 ex9 => ?_)
  have hw := hw x9 ex9
  refine lv_istore (lv' := [(7, .int x9), (6, .int x5), (5, .int x4), (4, .int x3), (3, .int x2), (2, .int x1), (0, .ref hMo), (1, .int p0)]) hx hb dX6_findAxis_127 hl (by decide) rfl (fun ls hl => ?_)
  refine lv_aload_n hx hb dX6_findAxis_129 rfl (lv_at hl 6 rfl) ?_
  refine lv_iload hx hb dX6_findAxis_130 (lv_at hl 3 rfl) ?_
  refine lv_iload hx hb dX6_findAxis_132 (lv_at hl 0 rfl) ?_
  refine lv_idiv hx hb dX6_findAxis_134 hw.1 ?_
  have hw := hw.2
  refine lv_topi (fun x10 ex10 => ?_)
  have hw := hw x10 ex10
  refine va_put (D := D) (ci := 6) (v := .int x10) (ty := tyX6 22) (C := RX6) (T := TX6) (N := 32) hx hb hts inlX6 tyX6 tyX6_ok nmX6 hown hK hP hD hS 0 rfl rfl 22 (by decide) (hts (.fieldLink RX6 168 "SquarePlanesModel" "axisX" "I") mw_17_18) (fun _ h9 => h9) rfl (tyX6_ok 22 (by decide)) rfl rfl (Nat.le_of_ble_eq_true rfl) dX6_findAxis_135 (fun H locs hP hD hS => ?_)
  have hP : va_P D vwCl (List.flatten [wMo cy hMo hMo_isThere hMo_stationX hMo_stationY hMo_stationZ hMo_told hMo_weight hMo_poleX hMo_poleY hMo_poleZ hMo_lesser hMo_greater hMo_misfit hMo_nodal hMo_order hMo_placeOf hMo_unlikeX hMo_unlikeY hMo_unlikeZ hMo_farUp hMo_farDown hMo_axisOf Mo_isThere Mo_stationX Mo_stationY Mo_stationZ Mo_told Mo_weight Mo_size Mo_extra Mo_poles Mo_poleX Mo_poleY Mo_poleZ Mo_pairs Mo_lesser Mo_greater Mo_isKnown Mo_least Mo_kept Mo_misfit Mo_nodal Mo_order Mo_placeOf x10 Mo_axisY Mo_axisZ Mo_axes Mo_unlikeX Mo_unlikeY Mo_unlikeZ Mo_farUp Mo_farDown Mo_axisOf]) H := hP
  have hD : va_D A (List.flatten [wMo cy hMo hMo_isThere hMo_stationX hMo_stationY hMo_stationZ hMo_told hMo_weight hMo_poleX hMo_poleY hMo_poleZ hMo_lesser hMo_greater hMo_misfit hMo_nodal hMo_order hMo_placeOf hMo_unlikeX hMo_unlikeY hMo_unlikeZ hMo_farUp hMo_farDown hMo_axisOf Mo_isThere Mo_stationX Mo_stationY Mo_stationZ Mo_told Mo_weight Mo_size Mo_extra Mo_poles Mo_poleX Mo_poleY Mo_poleZ Mo_pairs Mo_lesser Mo_greater Mo_isKnown Mo_least Mo_kept Mo_misfit Mo_nodal Mo_order Mo_placeOf x10 Mo_axisY Mo_axisZ Mo_axes Mo_unlikeX Mo_unlikeY Mo_unlikeZ Mo_farUp Mo_farDown Mo_axisOf]) := hD
  refine lv_aload_n hx hb dX6_findAxis_138 rfl (lv_at hl 6 rfl) ?_
  refine lv_iload hx hb dX6_findAxis_139 (lv_at hl 2 rfl) ?_
  refine lv_iload hx hb dX6_findAxis_141 (lv_at hl 0 rfl) ?_
  refine lv_idiv hx hb dX6_findAxis_143 hw.1 ?_
  have hw := hw.2
  refine lv_topi (fun x11 ex11 => ?_)
  have hw := hw x11 ex11
  refine va_put (D := D) (ci := 6) (v := .int x11) (ty := tyX6 23) (C := RX6) (T := TX6) (N := 32) hx hb hts inlX6 tyX6 tyX6_ok nmX6 hown hK hP hD hS 0 rfl rfl 23 (by decide) (hts (.fieldLink RX6 171 "SquarePlanesModel" "axisY" "I") mw_17_19) (fun _ h9 => h9) rfl (tyX6_ok 23 (by decide)) rfl rfl (Nat.le_of_ble_eq_true rfl) dX6_findAxis_144 (fun H locs hP hD hS => ?_)
  have hP : va_P D vwCl (List.flatten [wMo cy hMo hMo_isThere hMo_stationX hMo_stationY hMo_stationZ hMo_told hMo_weight hMo_poleX hMo_poleY hMo_poleZ hMo_lesser hMo_greater hMo_misfit hMo_nodal hMo_order hMo_placeOf hMo_unlikeX hMo_unlikeY hMo_unlikeZ hMo_farUp hMo_farDown hMo_axisOf Mo_isThere Mo_stationX Mo_stationY Mo_stationZ Mo_told Mo_weight Mo_size Mo_extra Mo_poles Mo_poleX Mo_poleY Mo_poleZ Mo_pairs Mo_lesser Mo_greater Mo_isKnown Mo_least Mo_kept Mo_misfit Mo_nodal Mo_order Mo_placeOf x10 x11 Mo_axisZ Mo_axes Mo_unlikeX Mo_unlikeY Mo_unlikeZ Mo_farUp Mo_farDown Mo_axisOf]) H := hP
  have hD : va_D A (List.flatten [wMo cy hMo hMo_isThere hMo_stationX hMo_stationY hMo_stationZ hMo_told hMo_weight hMo_poleX hMo_poleY hMo_poleZ hMo_lesser hMo_greater hMo_misfit hMo_nodal hMo_order hMo_placeOf hMo_unlikeX hMo_unlikeY hMo_unlikeZ hMo_farUp hMo_farDown hMo_axisOf Mo_isThere Mo_stationX Mo_stationY Mo_stationZ Mo_told Mo_weight Mo_size Mo_extra Mo_poles Mo_poleX Mo_poleY Mo_poleZ Mo_pairs Mo_lesser Mo_greater Mo_isKnown Mo_least Mo_kept Mo_misfit Mo_nodal Mo_order Mo_placeOf x10 x11 Mo_axisZ Mo_axes Mo_unlikeX Mo_unlikeY Mo_unlikeZ Mo_farUp Mo_farDown Mo_axisOf]) := hD
  refine lv_aload_n hx hb dX6_findAxis_147 rfl (lv_at hl 6 rfl) ?_
  refine lv_iload hx hb dX6_findAxis_148 (lv_at hl 1 rfl) ?_
  refine lv_iload hx hb dX6_findAxis_150 (lv_at hl 0 rfl) ?_
  refine lv_idiv hx hb dX6_findAxis_152 hw.1 ?_
  have hw := hw.2
  refine lv_topi (fun x12 ex12 => ?_)
  have hw := hw x12 ex12
  refine va_put (D := D) (ci := 6) (v := .int x12) (ty := tyX6 24) (C := RX6) (T := TX6) (N := 32) hx hb hts inlX6 tyX6 tyX6_ok nmX6 hown hK hP hD hS 0 rfl rfl 24 (by decide) (hts (.fieldLink RX6 174 "SquarePlanesModel" "axisZ" "I") mw_17_20) (fun _ h9 => h9) rfl (tyX6_ok 24 (by decide)) rfl rfl (Nat.le_of_ble_eq_true rfl) dX6_findAxis_153 (fun H locs hP hD hS => ?_)
  have hP : va_P D vwCl (List.flatten [wMo cy hMo hMo_isThere hMo_stationX hMo_stationY hMo_stationZ hMo_told hMo_weight hMo_poleX hMo_poleY hMo_poleZ hMo_lesser hMo_greater hMo_misfit hMo_nodal hMo_order hMo_placeOf hMo_unlikeX hMo_unlikeY hMo_unlikeZ hMo_farUp hMo_farDown hMo_axisOf Mo_isThere Mo_stationX Mo_stationY Mo_stationZ Mo_told Mo_weight Mo_size Mo_extra Mo_poles Mo_poleX Mo_poleY Mo_poleZ Mo_pairs Mo_lesser Mo_greater Mo_isKnown Mo_least Mo_kept Mo_misfit Mo_nodal Mo_order Mo_placeOf x10 x11 x12 Mo_axes Mo_unlikeX Mo_unlikeY Mo_unlikeZ Mo_farUp Mo_farDown Mo_axisOf]) H := hP
  have hD : va_D A (List.flatten [wMo cy hMo hMo_isThere hMo_stationX hMo_stationY hMo_stationZ hMo_told hMo_weight hMo_poleX hMo_poleY hMo_poleZ hMo_lesser hMo_greater hMo_misfit hMo_nodal hMo_order hMo_placeOf hMo_unlikeX hMo_unlikeY hMo_unlikeZ hMo_farUp hMo_farDown hMo_axisOf Mo_isThere Mo_stationX Mo_stationY Mo_stationZ Mo_told Mo_weight Mo_size Mo_extra Mo_poles Mo_poleX Mo_poleY Mo_poleZ Mo_pairs Mo_lesser Mo_greater Mo_isKnown Mo_least Mo_kept Mo_misfit Mo_nodal Mo_order Mo_placeOf x10 x11 x12 Mo_axes Mo_unlikeX Mo_unlikeY Mo_unlikeZ Mo_farUp Mo_farDown Mo_axisOf]) := hD
  exact W.vret hx hb hr (fun t ht hW => ⟨⟨(x10, x11, x12), rfl, hw, ⟨by rw [ht]; exact hP, va_K.moved hW.alike hK, hD⟩⟩, hS.F ht⟩) hS.2.2 dX6_findAxis_156
set_option maxHeartbeats 4000000 in
set_option maxRecDepth 100000 in
theorem k_X0_refresh (l : Launch) (D : va_G) (cy : Nat → ClassId) (hRa hRa_misfits hRa_nodals hRa_order hRa_places hRa_counted hRa_begins hPl hBu hBu_isHeld hBu_axes hBu_firstSolutions hPl_lesser hPl_greater hPl_axisOf hPl_axisXs hPl_axisYs hPl_axisZs hPl_axisSquares hPl_poleSigns hPo ns nn na np nq : Nat) (Ra_misfits : Nat → Int32) (Ra_nodals : Nat → Int32) (Ra_order : Nat → Int32) (Ra_places : Nat → Int32) (Ra_keptCount : Int32) (Ra_least : Int32) (Ra_version : Int32) (Ra_counted : Nat → Int32) (Ra_begins : Nat → Int32) (Bu_count : Int32) (Bu_spreadUpper : Int32) (Bu_spreadLower : Int32) (Bu_centreSolution : Int32) (Bu_version : Int32) (Bu_isHeld : Nat → Int32) (Bu_axes : Nat → Int32) (Bu_firstSolutions : Nat → Int32) (Bu_farUpper : Int32) (Bu_farLower : Int32) (Pl_poleCount : Int32) (Pl_pairCount : Int32) (Pl_lesser : Nat → Int32) (Pl_greater : Nat → Int32) (Pl_axisOf : Nat → Int32) (Pl_axisXs : Nat → Int32) (Pl_axisYs : Nat → Int32) (Pl_axisZs : Nat → Int32) (Pl_axisSquares : Nat → Int32) (Pl_axisCount : Int32) (Pl_poleSigns : Nat → Int32) (sz : Nat) (Q : Int32 → Int32 → Int32 → Int32 → (Nat → Int32) → (Nat → Int32) → (Nat → Int32) → Int32 → Int32 → Prop) (hw : wp_X0_refresh ns nn na np nq Ra_order Ra_keptCount Bu_count Bu_spreadUpper Bu_spreadLower Bu_centreSolution Bu_isHeld Bu_axes Bu_firstSolutions Bu_farUpper Bu_farLower Pl_axisOf Pl_axisXs Pl_axisYs Pl_axisZs Pl_axisSquares Q) : Met l yX0_refresh (wA yX0_refresh cX0_refresh 5 none) { frames := 3, cells := 0, slots := 0, locals := 69 } (kPc [.ref hBu, .ref hRa] D cy (List.flatten [wRa cy hRa hRa_misfits hRa_nodals hRa_order hRa_places hRa_counted hRa_begins hPl hBu ns nn Ra_misfits Ra_nodals Ra_order Ra_places Ra_keptCount Ra_least Ra_version Ra_counted Ra_begins, wBu cy hBu hBu_isHeld hBu_axes hBu_firstSolutions hPl na Bu_count Bu_spreadUpper Bu_spreadLower Bu_centreSolution Bu_version Bu_isHeld Bu_axes Bu_firstSolutions Bu_farUpper Bu_farLower, wPl cy hPl hPl_lesser hPl_greater hPl_axisOf hPl_axisXs hPl_axisYs hPl_axisZs hPl_axisSquares hPl_poleSigns hPo np nq Pl_poleCount Pl_pairCount Pl_lesser Pl_greater Pl_axisOf Pl_axisXs Pl_axisYs Pl_axisZs Pl_axisSquares Pl_axisCount Pl_poleSigns]) sz) (va_Qv (fun (u : Int32 × Int32 × Int32 × Int32 × (Nat → Int32) × (Nat → Int32) × (Nat → Int32) × Int32 × Int32) => Q u.1 u.2.1 u.2.2.1 u.2.2.2.1 u.2.2.2.2.1 u.2.2.2.2.2.1 u.2.2.2.2.2.2.1 u.2.2.2.2.2.2.2.1 u.2.2.2.2.2.2.2.2) (fun u t => kB D cy (va_A (List.flatten [wRa cy hRa hRa_misfits hRa_nodals hRa_order hRa_places hRa_counted hRa_begins hPl hBu ns nn Ra_misfits Ra_nodals Ra_order Ra_places Ra_keptCount Ra_least Ra_version Ra_counted Ra_begins, wBu cy hBu hBu_isHeld hBu_axes hBu_firstSolutions hPl na Bu_count Bu_spreadUpper Bu_spreadLower Bu_centreSolution Bu_version Bu_isHeld Bu_axes Bu_firstSolutions Bu_farUpper Bu_farLower, wPl cy hPl hPl_lesser hPl_greater hPl_axisOf hPl_axisXs hPl_axisYs hPl_axisZs hPl_axisSquares hPl_poleSigns hPo np nq Pl_poleCount Pl_pairCount Pl_lesser Pl_greater Pl_axisOf Pl_axisXs Pl_axisYs Pl_axisZs Pl_axisSquares Pl_axisCount Pl_poleSigns]) sz) (List.flatten [wRa cy hRa hRa_misfits hRa_nodals hRa_order hRa_places hRa_counted hRa_begins hPl hBu ns nn Ra_misfits Ra_nodals Ra_order Ra_places Ra_keptCount Ra_least Ra_version Ra_counted Ra_begins, wBu cy hBu hBu_isHeld hBu_axes hBu_firstSolutions hPl na u.1 u.2.1 u.2.2.1 u.2.2.2.1 Bu_version u.2.2.2.2.1 u.2.2.2.2.2.1 u.2.2.2.2.2.2.1 u.2.2.2.2.2.2.2.1 u.2.2.2.2.2.2.2.2, wPl cy hPl hPl_lesser hPl_greater hPl_axisOf hPl_axisXs hPl_axisYs hPl_axisZs hPl_axisSquares hPl_poleSigns hPo np nq Pl_poleCount Pl_pairCount Pl_lesser Pl_greater Pl_axisOf Pl_axisXs Pl_axisYs Pl_axisZs Pl_axisSquares Pl_axisCount Pl_poleSigns]) t) (va_A (List.flatten [wRa cy hRa hRa_misfits hRa_nodals hRa_order hRa_places hRa_counted hRa_begins hPl hBu ns nn Ra_misfits Ra_nodals Ra_order Ra_places Ra_keptCount Ra_least Ra_version Ra_counted Ra_begins, wBu cy hBu hBu_isHeld hBu_axes hBu_firstSolutions hPl na Bu_count Bu_spreadUpper Bu_spreadLower Bu_centreSolution Bu_version Bu_isHeld Bu_axes Bu_firstSolutions Bu_farUpper Bu_farLower, wPl cy hPl hPl_lesser hPl_greater hPl_axisOf hPl_axisXs hPl_axisYs hPl_axisZs hPl_axisSquares hPl_poleSigns hPo np nq Pl_poleCount Pl_pairCount Pl_lesser Pl_greater Pl_axisOf Pl_axisXs Pl_axisYs Pl_axisZs Pl_axisSquares Pl_axisCount Pl_poleSigns]) sz)) 0 0 (va_A (List.flatten [wRa cy hRa hRa_misfits hRa_nodals hRa_order hRa_places hRa_counted hRa_begins hPl hBu ns nn Ra_misfits Ra_nodals Ra_order Ra_places Ra_keptCount Ra_least Ra_version Ra_counted Ra_begins, wBu cy hBu hBu_isHeld hBu_axes hBu_firstSolutions hPl na Bu_count Bu_spreadUpper Bu_spreadLower Bu_centreSolution Bu_version Bu_isHeld Bu_axes Bu_firstSolutions Bu_farUpper Bu_farLower, wPl cy hPl hPl_lesser hPl_greater hPl_axisOf hPl_axisXs hPl_axisYs hPl_axisZs hPl_axisSquares hPl_poleSigns hPo np nq Pl_poleCount Pl_pairCount Pl_lesser Pl_greater Pl_axisOf Pl_axisXs Pl_axisYs Pl_axisZs Pl_axisSquares Pl_axisCount Pl_poleSigns]) sz) := by
  refine Met.ofW (cc := cX0_refresh) (maxL := 5) (ret := none) (by decide) rfl ?_
  intro p e s m args below meth c s₁ B hml hv
  obtain ⟨rfl, hsz, hN, hP, hK, hD0⟩ := hv
  have hx := B.exec
  have hb := B.bytes
  have hr := B.returns
  have hts0 := atoms_spec (ws := wA yX0_refresh cX0_refresh 5 none) B.pre
  have hts := fun w (h : w ∈ wsL_law) => hts0 w (List.mem_cons_of_mem _ h)
  have hown : s.vm.findClass RX0 = some m.cls := findClass_of_methodNamed B.named
  have hlocks := B.notSynchronized
  subst hsz
  have hD := hD0.self (sz := s.heap.size)
  generalize hAe : va_A (List.flatten [wRa cy hRa hRa_misfits hRa_nodals hRa_order hRa_places hRa_counted hRa_begins hPl hBu ns nn Ra_misfits Ra_nodals Ra_order Ra_places Ra_keptCount Ra_least Ra_version Ra_counted Ra_begins, wBu cy hBu hBu_isHeld hBu_axes hBu_firstSolutions hPl na Bu_count Bu_spreadUpper Bu_spreadLower Bu_centreSolution Bu_version Bu_isHeld Bu_axes Bu_firstSolutions Bu_farUpper Bu_farLower, wPl cy hPl hPl_lesser hPl_greater hPl_axisOf hPl_axisXs hPl_axisYs hPl_axisZs hPl_axisSquares hPl_poleSigns hPo np nq Pl_poleCount Pl_pairCount Pl_lesser Pl_greater Pl_axisOf Pl_axisXs Pl_axisYs Pl_axisZs Pl_axisSquares Pl_axisCount Pl_poleSigns]) s.heap.size = A at hD ⊢
  have hA : ∀ q : Nat, s.heap.size ≤ q → A q := fun q h => by rw [← hAe]; exact Or.inr h
  have hS : va_S A s.heap s.heap [] := va_S.rf
  have hP : va_P D vwCl (List.flatten [wRa cy hRa hRa_misfits hRa_nodals hRa_order hRa_places hRa_counted hRa_begins hPl hBu ns nn Ra_misfits Ra_nodals Ra_order Ra_places Ra_keptCount Ra_least Ra_version Ra_counted Ra_begins, wBu cy hBu hBu_isHeld hBu_axes hBu_firstSolutions hPl na Bu_count Bu_spreadUpper Bu_spreadLower Bu_centreSolution Bu_version Bu_isHeld Bu_axes Bu_firstSolutions Bu_farUpper Bu_farLower, wPl cy hPl hPl_lesser hPl_greater hPl_axisOf hPl_axisXs hPl_axisYs hPl_axisZs hPl_axisSquares hPl_poleSigns hPo np nq Pl_poleCount Pl_pairCount Pl_lesser Pl_greater Pl_axisOf Pl_axisXs Pl_axisYs Pl_axisZs Pl_axisSquares Pl_axisCount Pl_poleSigns]) s.heap := hP
  have hl := lv_entry ([.ref hBu, .ref hRa]) (n := 5) (Nat.le_of_ble_eq_true rfl)
  rw [lg_entry_eq]
  generalize (lg_sl ([.ref hBu, .ref hRa]) ++ List.replicate (5 - (lg_sl ([.ref hBu, .ref hRa])).length) Slot.unset).toArray = ls at hl ⊢
  have hl : lv_has ls 5 [(0, .ref hBu), (1, .ref hRa)] := hl
  unfold wp_X0_refresh at hw
  refine lv_aload_n hx hb dX0_refresh_0 rfl (lv_at hl 0 rfl) ?_
  refine lv_aload_n hx hb dX0_refresh_1 rfl (lv_at hl 1 rfl) ?_
  refine fd_v [0, 1, 2] [] hP hD hS hA rfl rfl rfl (by decide) (va_runV (As := [.ref hRa]) (rest := []) ⟨hx, hb, hml, hown, hts⟩ (k_X0_gather l D cy hRa hRa_misfits hRa_nodals hRa_order hRa_places hRa_counted hRa_begins hPl hBu hBu_isHeld hBu_axes hBu_firstSolutions hPl_lesser hPl_greater hPl_axisOf hPl_axisXs hPl_axisYs hPl_axisZs hPl_axisSquares hPl_poleSigns hPo ns nn na np nq Ra_misfits Ra_nodals Ra_order Ra_places Ra_keptCount Ra_least Ra_version Ra_counted Ra_begins Bu_count Bu_spreadUpper Bu_spreadLower Bu_centreSolution Bu_version Bu_isHeld Bu_axes Bu_firstSolutions Bu_farUpper Bu_farLower Pl_poleCount Pl_pairCount Pl_lesser Pl_greater Pl_axisOf Pl_axisXs Pl_axisYs Pl_axisZs Pl_axisSquares Pl_axisCount Pl_poleSigns _ _ hw) (cwV 1 hts (gV mw_26_6 mw_26_7 mw_26_8 mw_6_5 mw_26_9) rfl rfl rfl (by decide +kernel) ⟨Nat.le_of_ble_eq_true rfl, Nat.le_of_ble_eq_true rfl⟩) (fPreV hN hK hP hD [0, 1, 2] rfl rfl 7 (ci := 0) rfl rfl rfl _) rfl rfl hl.1 rfl (lv_room (Nat.le_of_ble_eq_true rfl)) dX0_refresh_2 ⟨Nat.zero_le _, Nat.zero_le _⟩) (fun u H locs hw hP hD hS => ?_)
  obtain ⟨w1, w2, w3, w4⟩ := u
  try dsimp only at hw
  have hP : va_P D vwCl (List.flatten [wRa cy hRa hRa_misfits hRa_nodals hRa_order hRa_places hRa_counted hRa_begins hPl hBu ns nn Ra_misfits Ra_nodals Ra_order Ra_places Ra_keptCount Ra_least Ra_version Ra_counted Ra_begins, wBu cy hBu hBu_isHeld hBu_axes hBu_firstSolutions hPl na w1 Bu_spreadUpper Bu_spreadLower Bu_centreSolution Bu_version w2 w3 w4 Bu_farUpper Bu_farLower, wPl cy hPl hPl_lesser hPl_greater hPl_axisOf hPl_axisXs hPl_axisYs hPl_axisZs hPl_axisSquares hPl_poleSigns hPo np nq Pl_poleCount Pl_pairCount Pl_lesser Pl_greater Pl_axisOf Pl_axisXs Pl_axisYs Pl_axisZs Pl_axisSquares Pl_axisCount Pl_poleSigns]) H := fl_P hP [0, 1, 2] rfl
  have hD : va_D A (List.flatten [wRa cy hRa hRa_misfits hRa_nodals hRa_order hRa_places hRa_counted hRa_begins hPl hBu ns nn Ra_misfits Ra_nodals Ra_order Ra_places Ra_keptCount Ra_least Ra_version Ra_counted Ra_begins, wBu cy hBu hBu_isHeld hBu_axes hBu_firstSolutions hPl na w1 Bu_spreadUpper Bu_spreadLower Bu_centreSolution Bu_version w2 w3 w4 Bu_farUpper Bu_farLower, wPl cy hPl hPl_lesser hPl_greater hPl_axisOf hPl_axisXs hPl_axisYs hPl_axisZs hPl_axisSquares hPl_poleSigns hPo np nq Pl_poleCount Pl_pairCount Pl_lesser Pl_greater Pl_axisOf Pl_axisXs Pl_axisYs Pl_axisZs Pl_axisSquares Pl_axisCount Pl_poleSigns]) := fl_D hD [0, 1, 2] rfl rfl
  refine lv_aload_n hx hb dX0_refresh_5 rfl (lv_at hl 0 rfl) ?_
  refine lv_iconst (v := 0) hx hb dX0_refresh_6 (by decide) ?_
  refine va_put (D := D) (ci := 0) (v := .int 0) (ty := tyX0 2) (C := RX0) (T := TX0) (N := 11) hx hb hts inlX0 tyX0 tyX0_ok nmX0 hown hK hP hD hS 7 rfl rfl 2 (by decide) (hts (.fieldLink RX0 43 "SquarePlanes$Bundle" "spreadUpper" "I") mw_26_2) (fun _ h9 => h9) rfl (tyX0_ok 2 (by decide)) rfl rfl (Nat.le_of_ble_eq_true rfl) dX0_refresh_7 (fun H locs hP hD hS => ?_)
  have hP : va_P D vwCl (List.flatten [wRa cy hRa hRa_misfits hRa_nodals hRa_order hRa_places hRa_counted hRa_begins hPl hBu ns nn Ra_misfits Ra_nodals Ra_order Ra_places Ra_keptCount Ra_least Ra_version Ra_counted Ra_begins, wBu cy hBu hBu_isHeld hBu_axes hBu_firstSolutions hPl na w1 0 Bu_spreadLower Bu_centreSolution Bu_version w2 w3 w4 Bu_farUpper Bu_farLower, wPl cy hPl hPl_lesser hPl_greater hPl_axisOf hPl_axisXs hPl_axisYs hPl_axisZs hPl_axisSquares hPl_poleSigns hPo np nq Pl_poleCount Pl_pairCount Pl_lesser Pl_greater Pl_axisOf Pl_axisXs Pl_axisYs Pl_axisZs Pl_axisSquares Pl_axisCount Pl_poleSigns]) H := hP
  have hD : va_D A (List.flatten [wRa cy hRa hRa_misfits hRa_nodals hRa_order hRa_places hRa_counted hRa_begins hPl hBu ns nn Ra_misfits Ra_nodals Ra_order Ra_places Ra_keptCount Ra_least Ra_version Ra_counted Ra_begins, wBu cy hBu hBu_isHeld hBu_axes hBu_firstSolutions hPl na w1 0 Bu_spreadLower Bu_centreSolution Bu_version w2 w3 w4 Bu_farUpper Bu_farLower, wPl cy hPl hPl_lesser hPl_greater hPl_axisOf hPl_axisXs hPl_axisYs hPl_axisZs hPl_axisSquares hPl_poleSigns hPo np nq Pl_poleCount Pl_pairCount Pl_lesser Pl_greater Pl_axisOf Pl_axisXs Pl_axisYs Pl_axisZs Pl_axisSquares Pl_axisCount Pl_poleSigns]) := hD
  refine lv_aload_n hx hb dX0_refresh_10 rfl (lv_at hl 0 rfl) ?_
  refine lv_iconst (v := 1) hx hb dX0_refresh_11 (by decide) ?_
  refine va_put (D := D) (ci := 0) (v := .int 1) (ty := tyX0 3) (C := RX0) (T := TX0) (N := 11) hx hb hts inlX0 tyX0 tyX0_ok nmX0 hown hK hP hD hS 7 rfl rfl 3 (by decide) (hts (.fieldLink RX0 7 "SquarePlanes$Bundle" "spreadLower" "I") mw_6_16) (fun _ h9 => h9) rfl (tyX0_ok 3 (by decide)) rfl rfl (Nat.le_of_ble_eq_true rfl) dX0_refresh_12 (fun H locs hP hD hS => ?_)
  have hP : va_P D vwCl (List.flatten [wRa cy hRa hRa_misfits hRa_nodals hRa_order hRa_places hRa_counted hRa_begins hPl hBu ns nn Ra_misfits Ra_nodals Ra_order Ra_places Ra_keptCount Ra_least Ra_version Ra_counted Ra_begins, wBu cy hBu hBu_isHeld hBu_axes hBu_firstSolutions hPl na w1 0 1 Bu_centreSolution Bu_version w2 w3 w4 Bu_farUpper Bu_farLower, wPl cy hPl hPl_lesser hPl_greater hPl_axisOf hPl_axisXs hPl_axisYs hPl_axisZs hPl_axisSquares hPl_poleSigns hPo np nq Pl_poleCount Pl_pairCount Pl_lesser Pl_greater Pl_axisOf Pl_axisXs Pl_axisYs Pl_axisZs Pl_axisSquares Pl_axisCount Pl_poleSigns]) H := hP
  have hD : va_D A (List.flatten [wRa cy hRa hRa_misfits hRa_nodals hRa_order hRa_places hRa_counted hRa_begins hPl hBu ns nn Ra_misfits Ra_nodals Ra_order Ra_places Ra_keptCount Ra_least Ra_version Ra_counted Ra_begins, wBu cy hBu hBu_isHeld hBu_axes hBu_firstSolutions hPl na w1 0 1 Bu_centreSolution Bu_version w2 w3 w4 Bu_farUpper Bu_farLower, wPl cy hPl hPl_lesser hPl_greater hPl_axisOf hPl_axisXs hPl_axisYs hPl_axisZs hPl_axisSquares hPl_poleSigns hPo np nq Pl_poleCount Pl_pairCount Pl_lesser Pl_greater Pl_axisOf Pl_axisXs Pl_axisYs Pl_axisZs Pl_axisSquares Pl_axisCount Pl_poleSigns]) := hD
  refine lv_iconst (v := 0) hx hb dX0_refresh_15 (by decide) ?_
  refine lv_istore_n (lv' := [(2, .int 0), (0, .ref hBu), (1, .ref hRa)]) hx hb dX0_refresh_16 rfl hl (by decide) rfl (fun ls hl => ?_)
  refine lv_iconst (v := 1) hx hb dX0_refresh_17 (by decide) ?_
  refine lv_istore_n (lv' := [(3, .int 1), (2, .int 0), (0, .ref hBu), (1, .ref hRa)]) hx hb dX0_refresh_18 rfl hl (by decide) rfl (fun ls hl => ?_)
  refine lv_iconst (v := 0) hx hb dX0_refresh_19 (by decide) ?_
  refine lv_istore (lv' := [(4, .int 0), (3, .int 1), (2, .int 0), (0, .ref hBu), (1, .ref hRa)]) hx hb dX0_refresh_20 hl (by decide) rfl (fun ls hl => ?_)
  obtain ⟨n22, hw⟩ := hw
  have kl22 : ∀ (K22_128 : Int32 → Int32 → Int32 → Int32 → Int32 → Int32 → Int32 → Int32 → Prop) (hk22_128 : ∀ (y2_22 : Int32) (y3_22 : Int32) (y4_22 : Int32) (Bu_spreadUpper_v_22 : Int32) (Bu_spreadLower_v_22 : Int32) (Bu_centreSolution_v_22 : Int32) (Bu_farUpper_v_22 : Int32) (Bu_farLower_v_22 : Int32) (H : Heap) (locs : List Loc) (ls : Array Slot), K22_128 y2_22 y3_22 y4_22 Bu_spreadUpper_v_22 Bu_spreadLower_v_22 Bu_centreSolution_v_22 Bu_farUpper_v_22 Bu_farLower_v_22 → va_P D vwCl (List.flatten [wRa cy hRa hRa_misfits hRa_nodals hRa_order hRa_places hRa_counted hRa_begins hPl hBu ns nn Ra_misfits Ra_nodals Ra_order Ra_places Ra_keptCount Ra_least Ra_version Ra_counted Ra_begins, wBu cy hBu hBu_isHeld hBu_axes hBu_firstSolutions hPl na w1 Bu_spreadUpper_v_22 Bu_spreadLower_v_22 Bu_centreSolution_v_22 Bu_version w2 w3 w4 Bu_farUpper_v_22 Bu_farLower_v_22, wPl cy hPl hPl_lesser hPl_greater hPl_axisOf hPl_axisXs hPl_axisYs hPl_axisZs hPl_axisSquares hPl_poleSigns hPo np nq Pl_poleCount Pl_pairCount Pl_lesser Pl_greater Pl_axisOf Pl_axisXs Pl_axisYs Pl_axisZs Pl_axisSquares Pl_axisCount Pl_poleSigns]) H → va_D A (List.flatten [wRa cy hRa hRa_misfits hRa_nodals hRa_order hRa_places hRa_counted hRa_begins hPl hBu ns nn Ra_misfits Ra_nodals Ra_order Ra_places Ra_keptCount Ra_least Ra_version Ra_counted Ra_begins, wBu cy hBu hBu_isHeld hBu_axes hBu_firstSolutions hPl na w1 Bu_spreadUpper_v_22 Bu_spreadLower_v_22 Bu_centreSolution_v_22 Bu_version w2 w3 w4 Bu_farUpper_v_22 Bu_farLower_v_22, wPl cy hPl hPl_lesser hPl_greater hPl_axisOf hPl_axisXs hPl_axisYs hPl_axisZs hPl_axisSquares hPl_poleSigns hPo np nq Pl_poleCount Pl_pairCount Pl_lesser Pl_greater Pl_axisOf Pl_axisXs Pl_axisYs Pl_axisZs Pl_axisSquares Pl_axisCount Pl_poleSigns]) → va_S A s.heap H locs → lv_has ls 5 [(0, .ref hBu), (1, .ref hRa), (2, .int y2_22), (3, .int y3_22), (4, .int y4_22)] → W p l e (headSpec (wA yX0_refresh cX0_refresh 5 none) { frames := 3, cells := 0, slots := 0, locals := 69 }).room s m #[.ref hBu, .ref hRa] below meth c H locs 0 0 (MQ below (va_Qv (fun (u : Int32 × Int32 × Int32 × Int32 × (Nat → Int32) × (Nat → Int32) × (Nat → Int32) × Int32 × Int32) => Q u.1 u.2.1 u.2.2.1 u.2.2.2.1 u.2.2.2.2.1 u.2.2.2.2.2.1 u.2.2.2.2.2.2.1 u.2.2.2.2.2.2.2.1 u.2.2.2.2.2.2.2.2) (fun u t => kB D cy A (List.flatten [wRa cy hRa hRa_misfits hRa_nodals hRa_order hRa_places hRa_counted hRa_begins hPl hBu ns nn Ra_misfits Ra_nodals Ra_order Ra_places Ra_keptCount Ra_least Ra_version Ra_counted Ra_begins, wBu cy hBu hBu_isHeld hBu_axes hBu_firstSolutions hPl na u.1 u.2.1 u.2.2.1 u.2.2.2.1 Bu_version u.2.2.2.2.1 u.2.2.2.2.2.1 u.2.2.2.2.2.2.1 u.2.2.2.2.2.2.2.1 u.2.2.2.2.2.2.2.2, wPl cy hPl hPl_lesser hPl_greater hPl_axisOf hPl_axisXs hPl_axisYs hPl_axisZs hPl_axisSquares hPl_poleSigns hPo np nq Pl_poleCount Pl_pairCount Pl_lesser Pl_greater Pl_axisOf Pl_axisXs Pl_axisYs Pl_axisZs Pl_axisSquares Pl_axisCount Pl_poleSigns]) t) A) #[.ref hBu, .ref hRa] s 0 0 A) (F0 m 128 ls [])) (n : Nat) (y2_22 : Int32) (y3_22 : Int32) (y4_22 : Int32) (Bu_spreadUpper_v_22 : Int32) (Bu_spreadLower_v_22 : Int32) (Bu_centreSolution_v_22 : Int32) (Bu_farUpper_v_22 : Int32) (Bu_farLower_v_22 : Int32) (H : Heap) (locs : List Loc) (ls : Array Slot), wp_X0_refresh_L22 na np nq Pl_axisXs Pl_axisYs Pl_axisZs Pl_axisSquares w1 w3 w4 K22_128 n y2_22 y3_22 y4_22 Bu_spreadUpper_v_22 Bu_spreadLower_v_22 Bu_centreSolution_v_22 Bu_farUpper_v_22 Bu_farLower_v_22 → va_P D vwCl (List.flatten [wRa cy hRa hRa_misfits hRa_nodals hRa_order hRa_places hRa_counted hRa_begins hPl hBu ns nn Ra_misfits Ra_nodals Ra_order Ra_places Ra_keptCount Ra_least Ra_version Ra_counted Ra_begins, wBu cy hBu hBu_isHeld hBu_axes hBu_firstSolutions hPl na w1 Bu_spreadUpper_v_22 Bu_spreadLower_v_22 Bu_centreSolution_v_22 Bu_version w2 w3 w4 Bu_farUpper_v_22 Bu_farLower_v_22, wPl cy hPl hPl_lesser hPl_greater hPl_axisOf hPl_axisXs hPl_axisYs hPl_axisZs hPl_axisSquares hPl_poleSigns hPo np nq Pl_poleCount Pl_pairCount Pl_lesser Pl_greater Pl_axisOf Pl_axisXs Pl_axisYs Pl_axisZs Pl_axisSquares Pl_axisCount Pl_poleSigns]) H → va_D A (List.flatten [wRa cy hRa hRa_misfits hRa_nodals hRa_order hRa_places hRa_counted hRa_begins hPl hBu ns nn Ra_misfits Ra_nodals Ra_order Ra_places Ra_keptCount Ra_least Ra_version Ra_counted Ra_begins, wBu cy hBu hBu_isHeld hBu_axes hBu_firstSolutions hPl na w1 Bu_spreadUpper_v_22 Bu_spreadLower_v_22 Bu_centreSolution_v_22 Bu_version w2 w3 w4 Bu_farUpper_v_22 Bu_farLower_v_22, wPl cy hPl hPl_lesser hPl_greater hPl_axisOf hPl_axisXs hPl_axisYs hPl_axisZs hPl_axisSquares hPl_poleSigns hPo np nq Pl_poleCount Pl_pairCount Pl_lesser Pl_greater Pl_axisOf Pl_axisXs Pl_axisYs Pl_axisZs Pl_axisSquares Pl_axisCount Pl_poleSigns]) → va_S A s.heap H locs → lv_has ls 5 [(0, .ref hBu), (1, .ref hRa), (2, .int y2_22), (3, .int y3_22), (4, .int y4_22)] → W p l e (headSpec (wA yX0_refresh cX0_refresh 5 none) { frames := 3, cells := 0, slots := 0, locals := 69 }).room s m #[.ref hBu, .ref hRa] below meth c H locs 0 0 (MQ below (va_Qv (fun (u : Int32 × Int32 × Int32 × Int32 × (Nat → Int32) × (Nat → Int32) × (Nat → Int32) × Int32 × Int32) => Q u.1 u.2.1 u.2.2.1 u.2.2.2.1 u.2.2.2.2.1 u.2.2.2.2.2.1 u.2.2.2.2.2.2.1 u.2.2.2.2.2.2.2.1 u.2.2.2.2.2.2.2.2) (fun u t => kB D cy A (List.flatten [wRa cy hRa hRa_misfits hRa_nodals hRa_order hRa_places hRa_counted hRa_begins hPl hBu ns nn Ra_misfits Ra_nodals Ra_order Ra_places Ra_keptCount Ra_least Ra_version Ra_counted Ra_begins, wBu cy hBu hBu_isHeld hBu_axes hBu_firstSolutions hPl na u.1 u.2.1 u.2.2.1 u.2.2.2.1 Bu_version u.2.2.2.2.1 u.2.2.2.2.2.1 u.2.2.2.2.2.2.1 u.2.2.2.2.2.2.2.1 u.2.2.2.2.2.2.2.2, wPl cy hPl hPl_lesser hPl_greater hPl_axisOf hPl_axisXs hPl_axisYs hPl_axisZs hPl_axisSquares hPl_poleSigns hPo np nq Pl_poleCount Pl_pairCount Pl_lesser Pl_greater Pl_axisOf Pl_axisXs Pl_axisYs Pl_axisZs Pl_axisSquares Pl_axisCount Pl_poleSigns]) t) A) #[.ref hBu, .ref hRa] s 0 0 A) (F0 m 22 ls []) := by
    intro K22_128 hk22_128 n
    induction n with
    | zero =>
      intro y2_22 y3_22 y4_22 Bu_spreadUpper_v_22 Bu_spreadLower_v_22 Bu_centreSolution_v_22 Bu_farUpper_v_22 Bu_farLower_v_22 H locs ls hw
      exact hw.elim
    | succ n ih22 =>
      intro y2_22 y3_22 y4_22 Bu_spreadUpper_v_22 Bu_spreadLower_v_22 Bu_centreSolution_v_22 Bu_farUpper_v_22 Bu_farLower_v_22 H locs ls hw hP hD hS hl
      unfold wp_X0_refresh_L22 at hw
      refine lv_iload hx hb dX0_refresh_22 (lv_at hl 4 rfl) ?_
      refine lv_aload_n hx hb dX0_refresh_24 rfl (lv_at hl 0 rfl) ?_
      refine va_get (D := D) (ci := 0) (v := .int w1) (C := RX0) (T := TX0) (N := 11) hx hb hts inlX0 hown hK hP 7 rfl rfl 1 (by decide) (hts (.fieldLink RX0 46 "SquarePlanes$Bundle" "count" "I") mw_26_3) (fun _ h9 => h9) rfl dX0_refresh_25 ?_
      refine lv_icmp_ge (tgt := 128) hx hb dX0_refresh_28 (by decide) (fun c15_22 => ?_) (fun c15_22 => ?_)
      · have hw := hw.1 c15_22
        exact hk22_128 y2_22 y3_22 y4_22 Bu_spreadUpper_v_22 Bu_spreadLower_v_22 Bu_centreSolution_v_22 Bu_farUpper_v_22 Bu_farLower_v_22 _ _ ls hw hP hD hS (lv_sub hl [0, 1, 2, 3, 4] rfl)
      · have hw := hw.2 c15_22
        refine lv_aload_n hx hb dX0_refresh_31 rfl (lv_at hl 0 rfl) ?_
        refine lv_aload_n hx hb dX0_refresh_32 rfl (lv_at hl 0 rfl) ?_
        refine va_get (D := D) (ci := 0) (v := .ref hBu_axes) (C := RX0) (T := TX0) (N := 11) hx hb hts inlX0 hown hK hP 7 rfl rfl 7 (by decide) (hts (.fieldLink RX0 32 "SquarePlanes$Bundle" "axes" "[I") mw_6_22) (fun _ h9 => h9) rfl dX0_refresh_33 ?_
        refine lv_iload hx hb dX0_refresh_36 (lv_at hl 4 rfl) ?_
        refine va_iald hx hb hK hP 9 0 rfl rfl hw.1 dX0_refresh_38 ?_
        have hw := hw.2
        refine fd_v [1, 2] [0] hP hD hS hA rfl rfl rfl (by decide) (va_runV (As := [.int (w3 y4_22.toNatClampNeg)]) (rest := []) ⟨hx, hb, hml, hown, hts⟩ (k_X0_findFarthest l D cy hBu hBu_isHeld hBu_axes hBu_firstSolutions hPl hPl_lesser hPl_greater hPl_axisOf hPl_axisXs hPl_axisYs hPl_axisZs hPl_axisSquares hPl_poleSigns hPo na np nq w1 Bu_spreadUpper_v_22 Bu_spreadLower_v_22 Bu_centreSolution_v_22 Bu_version w2 w3 w4 Bu_farUpper_v_22 Bu_farLower_v_22 Pl_poleCount Pl_pairCount Pl_lesser Pl_greater Pl_axisOf Pl_axisXs Pl_axisYs Pl_axisZs Pl_axisSquares Pl_axisCount Pl_poleSigns (w3 y4_22.toNatClampNeg) _ _ hw) (cwV 1 hts (gV mw_26_13 mw_26_14 mw_26_15 mw_6_5 mw_26_16) rfl rfl rfl (by decide +kernel) ⟨Nat.le_of_ble_eq_true rfl, Nat.le_of_ble_eq_true rfl⟩) (fPreV hN hK hP hD [1, 2] rfl rfl 7 (ci := 0) rfl rfl rfl _) rfl rfl hl.1 rfl (lv_room (Nat.le_of_ble_eq_true rfl)) dX0_refresh_39 ⟨Nat.zero_le _, Nat.zero_le _⟩) (fun u H locs hw hP hD hS => ?_)
        obtain ⟨w1_22, w2_22⟩ := u
        try dsimp only at hw
        have hP : va_P D vwCl (List.flatten [wRa cy hRa hRa_misfits hRa_nodals hRa_order hRa_places hRa_counted hRa_begins hPl hBu ns nn Ra_misfits Ra_nodals Ra_order Ra_places Ra_keptCount Ra_least Ra_version Ra_counted Ra_begins, wBu cy hBu hBu_isHeld hBu_axes hBu_firstSolutions hPl na w1 Bu_spreadUpper_v_22 Bu_spreadLower_v_22 Bu_centreSolution_v_22 Bu_version w2 w3 w4 w1_22 w2_22, wPl cy hPl hPl_lesser hPl_greater hPl_axisOf hPl_axisXs hPl_axisYs hPl_axisZs hPl_axisSquares hPl_poleSigns hPo np nq Pl_poleCount Pl_pairCount Pl_lesser Pl_greater Pl_axisOf Pl_axisXs Pl_axisYs Pl_axisZs Pl_axisSquares Pl_axisCount Pl_poleSigns]) H := fl_P hP [0, 1, 2] rfl
        have hD : va_D A (List.flatten [wRa cy hRa hRa_misfits hRa_nodals hRa_order hRa_places hRa_counted hRa_begins hPl hBu ns nn Ra_misfits Ra_nodals Ra_order Ra_places Ra_keptCount Ra_least Ra_version Ra_counted Ra_begins, wBu cy hBu hBu_isHeld hBu_axes hBu_firstSolutions hPl na w1 Bu_spreadUpper_v_22 Bu_spreadLower_v_22 Bu_centreSolution_v_22 Bu_version w2 w3 w4 w1_22 w2_22, wPl cy hPl hPl_lesser hPl_greater hPl_axisOf hPl_axisXs hPl_axisYs hPl_axisZs hPl_axisSquares hPl_poleSigns hPo np nq Pl_poleCount Pl_pairCount Pl_lesser Pl_greater Pl_axisOf Pl_axisXs Pl_axisYs Pl_axisZs Pl_axisSquares Pl_axisCount Pl_poleSigns]) := fl_D hD [0, 1, 2] rfl rfl
        refine lv_aload_n hx hb dX0_refresh_42 rfl (lv_at hl 0 rfl) ?_
        refine va_get (D := D) (ci := 0) (v := .int w1_22) (C := RX0) (T := TX0) (N := 11) hx hb hts inlX0 hown hK hP 7 rfl rfl 9 (by decide) (hts (.fieldLink RX0 53 "SquarePlanes$Bundle" "farUpper" "I") mw_26_4) (fun _ h9 => h9) rfl dX0_refresh_43 ?_
        refine lv_aload_n hx hb dX0_refresh_46 rfl (lv_at hl 0 rfl) ?_
        refine va_get (D := D) (ci := 0) (v := .int w2_22) (C := RX0) (T := TX0) (N := 11) hx hb hts inlX0 hown hK hP 7 rfl rfl 10 (by decide) (hts (.fieldLink RX0 16 "SquarePlanes$Bundle" "farLower" "I") mw_6_18) (fun _ h9 => h9) rfl dX0_refresh_47 ?_
        refine lv_aload_n hx hb dX0_refresh_50 rfl (lv_at hl 0 rfl) ?_
        refine va_get (D := D) (ci := 0) (v := .int Bu_spreadUpper_v_22) (C := RX0) (T := TX0) (N := 11) hx hb hts inlX0 hown hK hP 7 rfl rfl 2 (by decide) (hts (.fieldLink RX0 43 "SquarePlanes$Bundle" "spreadUpper" "I") mw_26_2) (fun _ h9 => h9) rfl dX0_refresh_51 ?_
        refine lv_aload_n hx hb dX0_refresh_54 rfl (lv_at hl 0 rfl) ?_
        refine va_get (D := D) (ci := 0) (v := .int Bu_spreadLower_v_22) (C := RX0) (T := TX0) (N := 11) hx hb hts inlX0 hown hK hP 7 rfl rfl 3 (by decide) (hts (.fieldLink RX0 7 "SquarePlanes$Bundle" "spreadLower" "I") mw_6_16) (fun _ h9 => h9) rfl dX0_refresh_55 ?_
        refine kc_i (va_runSN (As := [.int w1_22, .int w2_22, .int Bu_spreadUpper_v_22, .int Bu_spreadLower_v_22]) (rest := []) ⟨hx, hb, hml, hown, hts⟩ (k_X5_isGreater l D cy w1_22 w2_22 Bu_spreadUpper_v_22 Bu_spreadLower_v_22 _ _ hw) ⟨va_cnB 4 hts (gA mw_26_20) rfl rfl rfl hN.2.2.2.2 (hts (.initialized RX5) mw_1_2) (by decide +kernel) ⟨Nat.le_of_ble_eq_true rfl, Nat.le_of_ble_eq_true rfl⟩, hts (.static yX5_isGreater) mw_26_19, trivial⟩ (fPre hN hK hP hD [] rfl rfl _) rfl rfl hl.1 rfl (lv_room (Nat.le_of_ble_eq_true rfl)) dX0_refresh_58 ⟨Nat.zero_le _, Nat.zero_le _⟩) (fun r3_22 hw => ?_)
        refine lv_if_eq (tgt := 80) hx hb dX0_refresh_61 (by decide) (fun c14_22 => ?_) (fun c14_22 => ?_)
        · have hw := hw.1 c14_22
          refine lv_iload hx hb dX0_refresh_80 (lv_at hl 4 rfl) ?_
          refine lv_if_eq (tgt := 101) hx hb dX0_refresh_82 (by decide) (fun c8_22 => ?_) (fun c8_22 => ?_)
          · have hw := hw.1 c8_22
            refine lv_aload_n hx hb dX0_refresh_101 rfl (lv_at hl 0 rfl) ?_
            refine va_get (D := D) (ci := 0) (v := .int w1_22) (C := RX0) (T := TX0) (N := 11) hx hb hts inlX0 hown hK hP 7 rfl rfl 9 (by decide) (hts (.fieldLink RX0 53 "SquarePlanes$Bundle" "farUpper" "I") mw_26_4) (fun _ h9 => h9) rfl dX0_refresh_102 ?_
            refine lv_istore_n (lv' := [(2, .int w1_22), (0, .ref hBu), (1, .ref hRa), (3, .int y3_22), (4, .int y4_22)]) hx hb dX0_refresh_105 rfl hl (by decide) rfl (fun ls hl => ?_)
            refine lv_aload_n hx hb dX0_refresh_106 rfl (lv_at hl 1 rfl) ?_
            refine va_get (D := D) (ci := 0) (v := .int w2_22) (C := RX0) (T := TX0) (N := 11) hx hb hts inlX0 hown hK hP 7 rfl rfl 10 (by decide) (hts (.fieldLink RX0 16 "SquarePlanes$Bundle" "farLower" "I") mw_6_18) (fun _ h9 => h9) rfl dX0_refresh_107 ?_
            refine lv_istore_n (lv' := [(3, .int w2_22), (2, .int w1_22), (0, .ref hBu), (1, .ref hRa), (4, .int y4_22)]) hx hb dX0_refresh_110 rfl hl (by decide) rfl (fun ls hl => ?_)
            refine lv_aload_n hx hb dX0_refresh_111 rfl (lv_at hl 2 rfl) ?_
            refine lv_aload_n hx hb dX0_refresh_112 rfl (lv_at hl 2 rfl) ?_
            refine va_get (D := D) (ci := 0) (v := .ref hBu_firstSolutions) (C := RX0) (T := TX0) (N := 11) hx hb hts inlX0 hown hK hP 7 rfl rfl 8 (by decide) (hts (.fieldLink RX0 36 "SquarePlanes$Bundle" "firstSolutions" "[I") mw_6_23) (fun _ h9 => h9) rfl dX0_refresh_113 ?_
            refine lv_iload hx hb dX0_refresh_116 (lv_at hl 4 rfl) ?_
            refine va_iald hx hb hK hP 10 0 rfl rfl hw.1 dX0_refresh_118 ?_
            have hw := hw.2
            refine lv_topi (fun x4_22 ex4_22 => ?_)
            have hw := hw x4_22 ex4_22
            refine va_put (D := D) (ci := 0) (v := .int x4_22) (ty := tyX0 4) (C := RX0) (T := TX0) (N := 11) hx hb hts inlX0 tyX0 tyX0_ok nmX0 hown hK hP hD hS 7 rfl rfl 4 (by decide) (hts (.fieldLink RX0 62 "SquarePlanes$Bundle" "centreSolution" "I") mw_26_5) (fun _ h9 => h9) rfl (tyX0_ok 4 (by decide)) rfl rfl (Nat.le_of_ble_eq_true rfl) dX0_refresh_119 (fun H locs hP hD hS => ?_)
            have hP : va_P D vwCl (List.flatten [wRa cy hRa hRa_misfits hRa_nodals hRa_order hRa_places hRa_counted hRa_begins hPl hBu ns nn Ra_misfits Ra_nodals Ra_order Ra_places Ra_keptCount Ra_least Ra_version Ra_counted Ra_begins, wBu cy hBu hBu_isHeld hBu_axes hBu_firstSolutions hPl na w1 Bu_spreadUpper_v_22 Bu_spreadLower_v_22 x4_22 Bu_version w2 w3 w4 w1_22 w2_22, wPl cy hPl hPl_lesser hPl_greater hPl_axisOf hPl_axisXs hPl_axisYs hPl_axisZs hPl_axisSquares hPl_poleSigns hPo np nq Pl_poleCount Pl_pairCount Pl_lesser Pl_greater Pl_axisOf Pl_axisXs Pl_axisYs Pl_axisZs Pl_axisSquares Pl_axisCount Pl_poleSigns]) H := hP
            have hD : va_D A (List.flatten [wRa cy hRa hRa_misfits hRa_nodals hRa_order hRa_places hRa_counted hRa_begins hPl hBu ns nn Ra_misfits Ra_nodals Ra_order Ra_places Ra_keptCount Ra_least Ra_version Ra_counted Ra_begins, wBu cy hBu hBu_isHeld hBu_axes hBu_firstSolutions hPl na w1 Bu_spreadUpper_v_22 Bu_spreadLower_v_22 x4_22 Bu_version w2 w3 w4 w1_22 w2_22, wPl cy hPl hPl_lesser hPl_greater hPl_axisOf hPl_axisXs hPl_axisYs hPl_axisZs hPl_axisSquares hPl_poleSigns hPo np nq Pl_poleCount Pl_pairCount Pl_lesser Pl_greater Pl_axisOf Pl_axisXs Pl_axisYs Pl_axisZs Pl_axisSquares Pl_axisCount Pl_poleSigns]) := hD
            refine lv_iinc (v := y4_22 + 1) (lv' := [(4, .int (y4_22 + 1)), (3, .int w2_22), (2, .int w1_22), (0, .ref hBu), (1, .ref hRa)]) hx hb dX0_refresh_122 hl (k := 4) rfl rfl (by decide) rfl (fun ls hl => ?_)
            refine lv_goto (tgt := 22) hx hb dX0_refresh_125 (by decide) ?_
            exact ih22 w1_22 w2_22 (y4_22 + 1) Bu_spreadUpper_v_22 Bu_spreadLower_v_22 x4_22 w1_22 w2_22 _ _ ls hw hP hD hS (lv_sub hl [3, 4, 2, 1, 0] rfl)
          · have hw := hw.2 c8_22
            refine lv_iload_n hx hb dX0_refresh_85 rfl (lv_at hl 2 rfl) ?_
            refine lv_iload_n hx hb dX0_refresh_86 rfl (lv_at hl 3 rfl) ?_
            refine lv_aload_n hx hb dX0_refresh_87 rfl (lv_at hl 0 rfl) ?_
            refine va_get (D := D) (ci := 0) (v := .int w1_22) (C := RX0) (T := TX0) (N := 11) hx hb hts inlX0 hown hK hP 7 rfl rfl 9 (by decide) (hts (.fieldLink RX0 53 "SquarePlanes$Bundle" "farUpper" "I") mw_26_4) (fun _ h9 => h9) rfl dX0_refresh_88 ?_
            refine lv_aload_n hx hb dX0_refresh_91 rfl (lv_at hl 0 rfl) ?_
            refine va_get (D := D) (ci := 0) (v := .int w2_22) (C := RX0) (T := TX0) (N := 11) hx hb hts inlX0 hown hK hP 7 rfl rfl 10 (by decide) (hts (.fieldLink RX0 16 "SquarePlanes$Bundle" "farLower" "I") mw_6_18) (fun _ h9 => h9) rfl dX0_refresh_92 ?_
            refine kc_i (va_runSN (As := [.int y2_22, .int y3_22, .int w1_22, .int w2_22]) (rest := []) ⟨hx, hb, hml, hown, hts⟩ (k_X5_isGreater l D cy y2_22 y3_22 w1_22 w2_22 _ _ hw) ⟨va_cnB 4 hts (gA mw_26_20) rfl rfl rfl hN.2.2.2.2 (hts (.initialized RX5) mw_1_2) (by decide +kernel) ⟨Nat.le_of_ble_eq_true rfl, Nat.le_of_ble_eq_true rfl⟩, hts (.static yX5_isGreater) mw_26_19, trivial⟩ (fPre hN hK hP hD [] rfl rfl _) rfl rfl hl.1 rfl (lv_room (Nat.le_of_ble_eq_true rfl)) dX0_refresh_95 ⟨Nat.zero_le _, Nat.zero_le _⟩) (fun r5_22 hw => ?_)
            refine lv_if_eq (tgt := 122) hx hb dX0_refresh_98 (by decide) (fun c7_22 => ?_) (fun c7_22 => ?_)
            · have hw := hw.1 c7_22
              refine lv_iinc (v := y4_22 + 1) (lv' := [(4, .int (y4_22 + 1)), (0, .ref hBu), (1, .ref hRa), (2, .int y2_22), (3, .int y3_22)]) hx hb dX0_refresh_122 hl (k := 4) rfl rfl (by decide) rfl (fun ls hl => ?_)
              refine lv_goto (tgt := 22) hx hb dX0_refresh_125 (by decide) ?_
              exact ih22 y2_22 y3_22 (y4_22 + 1) Bu_spreadUpper_v_22 Bu_spreadLower_v_22 Bu_centreSolution_v_22 w1_22 w2_22 _ _ ls hw hP hD hS (lv_sub hl [1, 2, 3, 4, 0] rfl)
            · have hw := hw.2 c7_22
              refine lv_aload_n hx hb dX0_refresh_101 rfl (lv_at hl 0 rfl) ?_
              refine va_get (D := D) (ci := 0) (v := .int w1_22) (C := RX0) (T := TX0) (N := 11) hx hb hts inlX0 hown hK hP 7 rfl rfl 9 (by decide) (hts (.fieldLink RX0 53 "SquarePlanes$Bundle" "farUpper" "I") mw_26_4) (fun _ h9 => h9) rfl dX0_refresh_102 ?_
              refine lv_istore_n (lv' := [(2, .int w1_22), (0, .ref hBu), (1, .ref hRa), (3, .int y3_22), (4, .int y4_22)]) hx hb dX0_refresh_105 rfl hl (by decide) rfl (fun ls hl => ?_)
              refine lv_aload_n hx hb dX0_refresh_106 rfl (lv_at hl 1 rfl) ?_
              refine va_get (D := D) (ci := 0) (v := .int w2_22) (C := RX0) (T := TX0) (N := 11) hx hb hts inlX0 hown hK hP 7 rfl rfl 10 (by decide) (hts (.fieldLink RX0 16 "SquarePlanes$Bundle" "farLower" "I") mw_6_18) (fun _ h9 => h9) rfl dX0_refresh_107 ?_
              refine lv_istore_n (lv' := [(3, .int w2_22), (2, .int w1_22), (0, .ref hBu), (1, .ref hRa), (4, .int y4_22)]) hx hb dX0_refresh_110 rfl hl (by decide) rfl (fun ls hl => ?_)
              refine lv_aload_n hx hb dX0_refresh_111 rfl (lv_at hl 2 rfl) ?_
              refine lv_aload_n hx hb dX0_refresh_112 rfl (lv_at hl 2 rfl) ?_
              refine va_get (D := D) (ci := 0) (v := .ref hBu_firstSolutions) (C := RX0) (T := TX0) (N := 11) hx hb hts inlX0 hown hK hP 7 rfl rfl 8 (by decide) (hts (.fieldLink RX0 36 "SquarePlanes$Bundle" "firstSolutions" "[I") mw_6_23) (fun _ h9 => h9) rfl dX0_refresh_113 ?_
              refine lv_iload hx hb dX0_refresh_116 (lv_at hl 4 rfl) ?_
              refine va_iald hx hb hK hP 10 0 rfl rfl hw.1 dX0_refresh_118 ?_
              have hw := hw.2
              refine lv_topi (fun x6_22 ex6_22 => ?_)
              have hw := hw x6_22 ex6_22
              refine va_put (D := D) (ci := 0) (v := .int x6_22) (ty := tyX0 4) (C := RX0) (T := TX0) (N := 11) hx hb hts inlX0 tyX0 tyX0_ok nmX0 hown hK hP hD hS 7 rfl rfl 4 (by decide) (hts (.fieldLink RX0 62 "SquarePlanes$Bundle" "centreSolution" "I") mw_26_5) (fun _ h9 => h9) rfl (tyX0_ok 4 (by decide)) rfl rfl (Nat.le_of_ble_eq_true rfl) dX0_refresh_119 (fun H locs hP hD hS => ?_)
              have hP : va_P D vwCl (List.flatten [wRa cy hRa hRa_misfits hRa_nodals hRa_order hRa_places hRa_counted hRa_begins hPl hBu ns nn Ra_misfits Ra_nodals Ra_order Ra_places Ra_keptCount Ra_least Ra_version Ra_counted Ra_begins, wBu cy hBu hBu_isHeld hBu_axes hBu_firstSolutions hPl na w1 Bu_spreadUpper_v_22 Bu_spreadLower_v_22 x6_22 Bu_version w2 w3 w4 w1_22 w2_22, wPl cy hPl hPl_lesser hPl_greater hPl_axisOf hPl_axisXs hPl_axisYs hPl_axisZs hPl_axisSquares hPl_poleSigns hPo np nq Pl_poleCount Pl_pairCount Pl_lesser Pl_greater Pl_axisOf Pl_axisXs Pl_axisYs Pl_axisZs Pl_axisSquares Pl_axisCount Pl_poleSigns]) H := hP
              have hD : va_D A (List.flatten [wRa cy hRa hRa_misfits hRa_nodals hRa_order hRa_places hRa_counted hRa_begins hPl hBu ns nn Ra_misfits Ra_nodals Ra_order Ra_places Ra_keptCount Ra_least Ra_version Ra_counted Ra_begins, wBu cy hBu hBu_isHeld hBu_axes hBu_firstSolutions hPl na w1 Bu_spreadUpper_v_22 Bu_spreadLower_v_22 x6_22 Bu_version w2 w3 w4 w1_22 w2_22, wPl cy hPl hPl_lesser hPl_greater hPl_axisOf hPl_axisXs hPl_axisYs hPl_axisZs hPl_axisSquares hPl_poleSigns hPo np nq Pl_poleCount Pl_pairCount Pl_lesser Pl_greater Pl_axisOf Pl_axisXs Pl_axisYs Pl_axisZs Pl_axisSquares Pl_axisCount Pl_poleSigns]) := hD
              refine lv_iinc (v := y4_22 + 1) (lv' := [(4, .int (y4_22 + 1)), (3, .int w2_22), (2, .int w1_22), (0, .ref hBu), (1, .ref hRa)]) hx hb dX0_refresh_122 hl (k := 4) rfl rfl (by decide) rfl (fun ls hl => ?_)
              refine lv_goto (tgt := 22) hx hb dX0_refresh_125 (by decide) ?_
              exact ih22 w1_22 w2_22 (y4_22 + 1) Bu_spreadUpper_v_22 Bu_spreadLower_v_22 x6_22 w1_22 w2_22 _ _ ls hw hP hD hS (lv_sub hl [3, 4, 2, 1, 0] rfl)
        · have hw := hw.2 c14_22
          refine lv_aload_n hx hb dX0_refresh_64 rfl (lv_at hl 0 rfl) ?_
          refine lv_aload_n hx hb dX0_refresh_65 rfl (lv_at hl 0 rfl) ?_
          refine va_get (D := D) (ci := 0) (v := .int w1_22) (C := RX0) (T := TX0) (N := 11) hx hb hts inlX0 hown hK hP 7 rfl rfl 9 (by decide) (hts (.fieldLink RX0 53 "SquarePlanes$Bundle" "farUpper" "I") mw_26_4) (fun _ h9 => h9) rfl dX0_refresh_66 ?_
          refine va_put (D := D) (ci := 0) (v := .int w1_22) (ty := tyX0 2) (C := RX0) (T := TX0) (N := 11) hx hb hts inlX0 tyX0 tyX0_ok nmX0 hown hK hP hD hS 7 rfl rfl 2 (by decide) (hts (.fieldLink RX0 43 "SquarePlanes$Bundle" "spreadUpper" "I") mw_26_2) (fun _ h9 => h9) rfl (tyX0_ok 2 (by decide)) rfl rfl (Nat.le_of_ble_eq_true rfl) dX0_refresh_69 (fun H locs hP hD hS => ?_)
          have hP : va_P D vwCl (List.flatten [wRa cy hRa hRa_misfits hRa_nodals hRa_order hRa_places hRa_counted hRa_begins hPl hBu ns nn Ra_misfits Ra_nodals Ra_order Ra_places Ra_keptCount Ra_least Ra_version Ra_counted Ra_begins, wBu cy hBu hBu_isHeld hBu_axes hBu_firstSolutions hPl na w1 w1_22 Bu_spreadLower_v_22 Bu_centreSolution_v_22 Bu_version w2 w3 w4 w1_22 w2_22, wPl cy hPl hPl_lesser hPl_greater hPl_axisOf hPl_axisXs hPl_axisYs hPl_axisZs hPl_axisSquares hPl_poleSigns hPo np nq Pl_poleCount Pl_pairCount Pl_lesser Pl_greater Pl_axisOf Pl_axisXs Pl_axisYs Pl_axisZs Pl_axisSquares Pl_axisCount Pl_poleSigns]) H := hP
          have hD : va_D A (List.flatten [wRa cy hRa hRa_misfits hRa_nodals hRa_order hRa_places hRa_counted hRa_begins hPl hBu ns nn Ra_misfits Ra_nodals Ra_order Ra_places Ra_keptCount Ra_least Ra_version Ra_counted Ra_begins, wBu cy hBu hBu_isHeld hBu_axes hBu_firstSolutions hPl na w1 w1_22 Bu_spreadLower_v_22 Bu_centreSolution_v_22 Bu_version w2 w3 w4 w1_22 w2_22, wPl cy hPl hPl_lesser hPl_greater hPl_axisOf hPl_axisXs hPl_axisYs hPl_axisZs hPl_axisSquares hPl_poleSigns hPo np nq Pl_poleCount Pl_pairCount Pl_lesser Pl_greater Pl_axisOf Pl_axisXs Pl_axisYs Pl_axisZs Pl_axisSquares Pl_axisCount Pl_poleSigns]) := hD
          refine lv_aload_n hx hb dX0_refresh_72 rfl (lv_at hl 0 rfl) ?_
          refine lv_aload_n hx hb dX0_refresh_73 rfl (lv_at hl 0 rfl) ?_
          refine va_get (D := D) (ci := 0) (v := .int w2_22) (C := RX0) (T := TX0) (N := 11) hx hb hts inlX0 hown hK hP 7 rfl rfl 10 (by decide) (hts (.fieldLink RX0 16 "SquarePlanes$Bundle" "farLower" "I") mw_6_18) (fun _ h9 => h9) rfl dX0_refresh_74 ?_
          refine va_put (D := D) (ci := 0) (v := .int w2_22) (ty := tyX0 3) (C := RX0) (T := TX0) (N := 11) hx hb hts inlX0 tyX0 tyX0_ok nmX0 hown hK hP hD hS 7 rfl rfl 3 (by decide) (hts (.fieldLink RX0 7 "SquarePlanes$Bundle" "spreadLower" "I") mw_6_16) (fun _ h9 => h9) rfl (tyX0_ok 3 (by decide)) rfl rfl (Nat.le_of_ble_eq_true rfl) dX0_refresh_77 (fun H locs hP hD hS => ?_)
          have hP : va_P D vwCl (List.flatten [wRa cy hRa hRa_misfits hRa_nodals hRa_order hRa_places hRa_counted hRa_begins hPl hBu ns nn Ra_misfits Ra_nodals Ra_order Ra_places Ra_keptCount Ra_least Ra_version Ra_counted Ra_begins, wBu cy hBu hBu_isHeld hBu_axes hBu_firstSolutions hPl na w1 w1_22 w2_22 Bu_centreSolution_v_22 Bu_version w2 w3 w4 w1_22 w2_22, wPl cy hPl hPl_lesser hPl_greater hPl_axisOf hPl_axisXs hPl_axisYs hPl_axisZs hPl_axisSquares hPl_poleSigns hPo np nq Pl_poleCount Pl_pairCount Pl_lesser Pl_greater Pl_axisOf Pl_axisXs Pl_axisYs Pl_axisZs Pl_axisSquares Pl_axisCount Pl_poleSigns]) H := hP
          have hD : va_D A (List.flatten [wRa cy hRa hRa_misfits hRa_nodals hRa_order hRa_places hRa_counted hRa_begins hPl hBu ns nn Ra_misfits Ra_nodals Ra_order Ra_places Ra_keptCount Ra_least Ra_version Ra_counted Ra_begins, wBu cy hBu hBu_isHeld hBu_axes hBu_firstSolutions hPl na w1 w1_22 w2_22 Bu_centreSolution_v_22 Bu_version w2 w3 w4 w1_22 w2_22, wPl cy hPl hPl_lesser hPl_greater hPl_axisOf hPl_axisXs hPl_axisYs hPl_axisZs hPl_axisSquares hPl_poleSigns hPo np nq Pl_poleCount Pl_pairCount Pl_lesser Pl_greater Pl_axisOf Pl_axisXs Pl_axisYs Pl_axisZs Pl_axisSquares Pl_axisCount Pl_poleSigns]) := hD
          refine lv_iload hx hb dX0_refresh_80 (lv_at hl 4 rfl) ?_
          refine lv_if_eq (tgt := 101) hx hb dX0_refresh_82 (by decide) (fun c13_22 => ?_) (fun c13_22 => ?_)
          · have hw := hw.1 c13_22
            refine lv_aload_n hx hb dX0_refresh_101 rfl (lv_at hl 0 rfl) ?_
            refine va_get (D := D) (ci := 0) (v := .int w1_22) (C := RX0) (T := TX0) (N := 11) hx hb hts inlX0 hown hK hP 7 rfl rfl 9 (by decide) (hts (.fieldLink RX0 53 "SquarePlanes$Bundle" "farUpper" "I") mw_26_4) (fun _ h9 => h9) rfl dX0_refresh_102 ?_
            refine lv_istore_n (lv' := [(2, .int w1_22), (0, .ref hBu), (1, .ref hRa), (3, .int y3_22), (4, .int y4_22)]) hx hb dX0_refresh_105 rfl hl (by decide) rfl (fun ls hl => ?_)
            refine lv_aload_n hx hb dX0_refresh_106 rfl (lv_at hl 1 rfl) ?_
            refine va_get (D := D) (ci := 0) (v := .int w2_22) (C := RX0) (T := TX0) (N := 11) hx hb hts inlX0 hown hK hP 7 rfl rfl 10 (by decide) (hts (.fieldLink RX0 16 "SquarePlanes$Bundle" "farLower" "I") mw_6_18) (fun _ h9 => h9) rfl dX0_refresh_107 ?_
            refine lv_istore_n (lv' := [(3, .int w2_22), (2, .int w1_22), (0, .ref hBu), (1, .ref hRa), (4, .int y4_22)]) hx hb dX0_refresh_110 rfl hl (by decide) rfl (fun ls hl => ?_)
            refine lv_aload_n hx hb dX0_refresh_111 rfl (lv_at hl 2 rfl) ?_
            refine lv_aload_n hx hb dX0_refresh_112 rfl (lv_at hl 2 rfl) ?_
            refine va_get (D := D) (ci := 0) (v := .ref hBu_firstSolutions) (C := RX0) (T := TX0) (N := 11) hx hb hts inlX0 hown hK hP 7 rfl rfl 8 (by decide) (hts (.fieldLink RX0 36 "SquarePlanes$Bundle" "firstSolutions" "[I") mw_6_23) (fun _ h9 => h9) rfl dX0_refresh_113 ?_
            refine lv_iload hx hb dX0_refresh_116 (lv_at hl 4 rfl) ?_
            refine va_iald hx hb hK hP 10 0 rfl rfl hw.1 dX0_refresh_118 ?_
            have hw := hw.2
            refine lv_topi (fun x9_22 ex9_22 => ?_)
            have hw := hw x9_22 ex9_22
            refine va_put (D := D) (ci := 0) (v := .int x9_22) (ty := tyX0 4) (C := RX0) (T := TX0) (N := 11) hx hb hts inlX0 tyX0 tyX0_ok nmX0 hown hK hP hD hS 7 rfl rfl 4 (by decide) (hts (.fieldLink RX0 62 "SquarePlanes$Bundle" "centreSolution" "I") mw_26_5) (fun _ h9 => h9) rfl (tyX0_ok 4 (by decide)) rfl rfl (Nat.le_of_ble_eq_true rfl) dX0_refresh_119 (fun H locs hP hD hS => ?_)
            have hP : va_P D vwCl (List.flatten [wRa cy hRa hRa_misfits hRa_nodals hRa_order hRa_places hRa_counted hRa_begins hPl hBu ns nn Ra_misfits Ra_nodals Ra_order Ra_places Ra_keptCount Ra_least Ra_version Ra_counted Ra_begins, wBu cy hBu hBu_isHeld hBu_axes hBu_firstSolutions hPl na w1 w1_22 w2_22 x9_22 Bu_version w2 w3 w4 w1_22 w2_22, wPl cy hPl hPl_lesser hPl_greater hPl_axisOf hPl_axisXs hPl_axisYs hPl_axisZs hPl_axisSquares hPl_poleSigns hPo np nq Pl_poleCount Pl_pairCount Pl_lesser Pl_greater Pl_axisOf Pl_axisXs Pl_axisYs Pl_axisZs Pl_axisSquares Pl_axisCount Pl_poleSigns]) H := hP
            have hD : va_D A (List.flatten [wRa cy hRa hRa_misfits hRa_nodals hRa_order hRa_places hRa_counted hRa_begins hPl hBu ns nn Ra_misfits Ra_nodals Ra_order Ra_places Ra_keptCount Ra_least Ra_version Ra_counted Ra_begins, wBu cy hBu hBu_isHeld hBu_axes hBu_firstSolutions hPl na w1 w1_22 w2_22 x9_22 Bu_version w2 w3 w4 w1_22 w2_22, wPl cy hPl hPl_lesser hPl_greater hPl_axisOf hPl_axisXs hPl_axisYs hPl_axisZs hPl_axisSquares hPl_poleSigns hPo np nq Pl_poleCount Pl_pairCount Pl_lesser Pl_greater Pl_axisOf Pl_axisXs Pl_axisYs Pl_axisZs Pl_axisSquares Pl_axisCount Pl_poleSigns]) := hD
            refine lv_iinc (v := y4_22 + 1) (lv' := [(4, .int (y4_22 + 1)), (3, .int w2_22), (2, .int w1_22), (0, .ref hBu), (1, .ref hRa)]) hx hb dX0_refresh_122 hl (k := 4) rfl rfl (by decide) rfl (fun ls hl => ?_)
            refine lv_goto (tgt := 22) hx hb dX0_refresh_125 (by decide) ?_
            exact ih22 w1_22 w2_22 (y4_22 + 1) w1_22 w2_22 x9_22 w1_22 w2_22 _ _ ls hw hP hD hS (lv_sub hl [3, 4, 2, 1, 0] rfl)
          · have hw := hw.2 c13_22
            refine lv_iload_n hx hb dX0_refresh_85 rfl (lv_at hl 2 rfl) ?_
            refine lv_iload_n hx hb dX0_refresh_86 rfl (lv_at hl 3 rfl) ?_
            refine lv_aload_n hx hb dX0_refresh_87 rfl (lv_at hl 0 rfl) ?_
            refine va_get (D := D) (ci := 0) (v := .int w1_22) (C := RX0) (T := TX0) (N := 11) hx hb hts inlX0 hown hK hP 7 rfl rfl 9 (by decide) (hts (.fieldLink RX0 53 "SquarePlanes$Bundle" "farUpper" "I") mw_26_4) (fun _ h9 => h9) rfl dX0_refresh_88 ?_
            refine lv_aload_n hx hb dX0_refresh_91 rfl (lv_at hl 0 rfl) ?_
            refine va_get (D := D) (ci := 0) (v := .int w2_22) (C := RX0) (T := TX0) (N := 11) hx hb hts inlX0 hown hK hP 7 rfl rfl 10 (by decide) (hts (.fieldLink RX0 16 "SquarePlanes$Bundle" "farLower" "I") mw_6_18) (fun _ h9 => h9) rfl dX0_refresh_92 ?_
            refine kc_i (va_runSN (As := [.int y2_22, .int y3_22, .int w1_22, .int w2_22]) (rest := []) ⟨hx, hb, hml, hown, hts⟩ (k_X5_isGreater l D cy y2_22 y3_22 w1_22 w2_22 _ _ hw) ⟨va_cnB 4 hts (gA mw_26_20) rfl rfl rfl hN.2.2.2.2 (hts (.initialized RX5) mw_1_2) (by decide +kernel) ⟨Nat.le_of_ble_eq_true rfl, Nat.le_of_ble_eq_true rfl⟩, hts (.static yX5_isGreater) mw_26_19, trivial⟩ (fPre hN hK hP hD [] rfl rfl _) rfl rfl hl.1 rfl (lv_room (Nat.le_of_ble_eq_true rfl)) dX0_refresh_95 ⟨Nat.zero_le _, Nat.zero_le _⟩) (fun r10_22 hw => ?_)
            refine lv_if_eq (tgt := 122) hx hb dX0_refresh_98 (by decide) (fun c12_22 => ?_) (fun c12_22 => ?_)
            · have hw := hw.1 c12_22
              refine lv_iinc (v := y4_22 + 1) (lv' := [(4, .int (y4_22 + 1)), (0, .ref hBu), (1, .ref hRa), (2, .int y2_22), (3, .int y3_22)]) hx hb dX0_refresh_122 hl (k := 4) rfl rfl (by decide) rfl (fun ls hl => ?_)
              refine lv_goto (tgt := 22) hx hb dX0_refresh_125 (by decide) ?_
              exact ih22 y2_22 y3_22 (y4_22 + 1) w1_22 w2_22 Bu_centreSolution_v_22 w1_22 w2_22 _ _ ls hw hP hD hS (lv_sub hl [1, 2, 3, 4, 0] rfl)
            · have hw := hw.2 c12_22
              refine lv_aload_n hx hb dX0_refresh_101 rfl (lv_at hl 0 rfl) ?_
              refine va_get (D := D) (ci := 0) (v := .int w1_22) (C := RX0) (T := TX0) (N := 11) hx hb hts inlX0 hown hK hP 7 rfl rfl 9 (by decide) (hts (.fieldLink RX0 53 "SquarePlanes$Bundle" "farUpper" "I") mw_26_4) (fun _ h9 => h9) rfl dX0_refresh_102 ?_
              refine lv_istore_n (lv' := [(2, .int w1_22), (0, .ref hBu), (1, .ref hRa), (3, .int y3_22), (4, .int y4_22)]) hx hb dX0_refresh_105 rfl hl (by decide) rfl (fun ls hl => ?_)
              refine lv_aload_n hx hb dX0_refresh_106 rfl (lv_at hl 1 rfl) ?_
              refine va_get (D := D) (ci := 0) (v := .int w2_22) (C := RX0) (T := TX0) (N := 11) hx hb hts inlX0 hown hK hP 7 rfl rfl 10 (by decide) (hts (.fieldLink RX0 16 "SquarePlanes$Bundle" "farLower" "I") mw_6_18) (fun _ h9 => h9) rfl dX0_refresh_107 ?_
              refine lv_istore_n (lv' := [(3, .int w2_22), (2, .int w1_22), (0, .ref hBu), (1, .ref hRa), (4, .int y4_22)]) hx hb dX0_refresh_110 rfl hl (by decide) rfl (fun ls hl => ?_)
              refine lv_aload_n hx hb dX0_refresh_111 rfl (lv_at hl 2 rfl) ?_
              refine lv_aload_n hx hb dX0_refresh_112 rfl (lv_at hl 2 rfl) ?_
              refine va_get (D := D) (ci := 0) (v := .ref hBu_firstSolutions) (C := RX0) (T := TX0) (N := 11) hx hb hts inlX0 hown hK hP 7 rfl rfl 8 (by decide) (hts (.fieldLink RX0 36 "SquarePlanes$Bundle" "firstSolutions" "[I") mw_6_23) (fun _ h9 => h9) rfl dX0_refresh_113 ?_
              refine lv_iload hx hb dX0_refresh_116 (lv_at hl 4 rfl) ?_
              refine va_iald hx hb hK hP 10 0 rfl rfl hw.1 dX0_refresh_118 ?_
              have hw := hw.2
              refine lv_topi (fun x11_22 ex11_22 => ?_)
              have hw := hw x11_22 ex11_22
              refine va_put (D := D) (ci := 0) (v := .int x11_22) (ty := tyX0 4) (C := RX0) (T := TX0) (N := 11) hx hb hts inlX0 tyX0 tyX0_ok nmX0 hown hK hP hD hS 7 rfl rfl 4 (by decide) (hts (.fieldLink RX0 62 "SquarePlanes$Bundle" "centreSolution" "I") mw_26_5) (fun _ h9 => h9) rfl (tyX0_ok 4 (by decide)) rfl rfl (Nat.le_of_ble_eq_true rfl) dX0_refresh_119 (fun H locs hP hD hS => ?_)
              have hP : va_P D vwCl (List.flatten [wRa cy hRa hRa_misfits hRa_nodals hRa_order hRa_places hRa_counted hRa_begins hPl hBu ns nn Ra_misfits Ra_nodals Ra_order Ra_places Ra_keptCount Ra_least Ra_version Ra_counted Ra_begins, wBu cy hBu hBu_isHeld hBu_axes hBu_firstSolutions hPl na w1 w1_22 w2_22 x11_22 Bu_version w2 w3 w4 w1_22 w2_22, wPl cy hPl hPl_lesser hPl_greater hPl_axisOf hPl_axisXs hPl_axisYs hPl_axisZs hPl_axisSquares hPl_poleSigns hPo np nq Pl_poleCount Pl_pairCount Pl_lesser Pl_greater Pl_axisOf Pl_axisXs Pl_axisYs Pl_axisZs Pl_axisSquares Pl_axisCount Pl_poleSigns]) H := hP
              have hD : va_D A (List.flatten [wRa cy hRa hRa_misfits hRa_nodals hRa_order hRa_places hRa_counted hRa_begins hPl hBu ns nn Ra_misfits Ra_nodals Ra_order Ra_places Ra_keptCount Ra_least Ra_version Ra_counted Ra_begins, wBu cy hBu hBu_isHeld hBu_axes hBu_firstSolutions hPl na w1 w1_22 w2_22 x11_22 Bu_version w2 w3 w4 w1_22 w2_22, wPl cy hPl hPl_lesser hPl_greater hPl_axisOf hPl_axisXs hPl_axisYs hPl_axisZs hPl_axisSquares hPl_poleSigns hPo np nq Pl_poleCount Pl_pairCount Pl_lesser Pl_greater Pl_axisOf Pl_axisXs Pl_axisYs Pl_axisZs Pl_axisSquares Pl_axisCount Pl_poleSigns]) := hD
              refine lv_iinc (v := y4_22 + 1) (lv' := [(4, .int (y4_22 + 1)), (3, .int w2_22), (2, .int w1_22), (0, .ref hBu), (1, .ref hRa)]) hx hb dX0_refresh_122 hl (k := 4) rfl rfl (by decide) rfl (fun ls hl => ?_)
              refine lv_goto (tgt := 22) hx hb dX0_refresh_125 (by decide) ?_
              exact ih22 w1_22 w2_22 (y4_22 + 1) w1_22 w2_22 x11_22 w1_22 w2_22 _ _ ls hw hP hD hS (lv_sub hl [3, 4, 2, 1, 0] rfl)
  refine kl22 _ ?_ n22 0 1 0 0 1 Bu_centreSolution Bu_farUpper Bu_farLower _ _ ls hw hP hD hS (lv_sub hl [3, 4, 2, 1, 0] rfl)
  · intro y2_22 y3_22 y4_22 Bu_spreadUpper_v_22 Bu_spreadLower_v_22 Bu_centreSolution_v_22 Bu_farUpper_v_22 Bu_farLower_v_22 H locs ls hw hP hD hS hl
    exact W.vret hx hb hr (fun t ht hW => ⟨⟨(w1, Bu_spreadUpper_v_22, Bu_spreadLower_v_22, Bu_centreSolution_v_22, w2, w3, w4, Bu_farUpper_v_22, Bu_farLower_v_22), rfl, hw, ⟨by rw [ht]; exact hP, va_K.moved hW.alike hK, hD⟩⟩, hS.F ht⟩) hS.2.2 dX0_refresh_128
set_option maxHeartbeats 4000000 in
set_option maxRecDepth 100000 in
theorem k_X2_addShell (l : Launch) (D : va_G) (cy : Nat → ClassId) (hPo hPo_xs hPo_ys hPo_zs hPo_countUpTo : Nat) (Po_xs : Nat → Int32) (Po_ys : Nat → Int32) (Po_zs : Nat → Int32) (Po_countUpTo : Nat → Int32) (Po_count : Int32) (p0 : Int32) (p1 : Int32) (sz : Nat) (Q : (Nat → Int32) → (Nat → Int32) → (Nat → Int32) → Int32 → Prop) (hw : wp_X2_addShell p0 p1 Po_xs Po_ys Po_zs Po_count Q) : Met l yX2_addShell (wA yX2_addShell cX2_addShell 6 none) { frames := 4, cells := 0, slots := 0, locals := 93 } (kPc [.ref hPo, .int p0, .int p1] D cy (List.flatten [wPo cy hPo hPo_xs hPo_ys hPo_zs hPo_countUpTo Po_xs Po_ys Po_zs Po_countUpTo Po_count]) sz) (va_Qv (fun (u : (Nat → Int32) × (Nat → Int32) × (Nat → Int32) × Int32) => Q u.1 u.2.1 u.2.2.1 u.2.2.2) (fun u t => kB D cy (va_A (List.flatten [wPo cy hPo hPo_xs hPo_ys hPo_zs hPo_countUpTo Po_xs Po_ys Po_zs Po_countUpTo Po_count]) sz) (List.flatten [wPo cy hPo hPo_xs hPo_ys hPo_zs hPo_countUpTo u.1 u.2.1 u.2.2.1 Po_countUpTo u.2.2.2]) t) (va_A (List.flatten [wPo cy hPo hPo_xs hPo_ys hPo_zs hPo_countUpTo Po_xs Po_ys Po_zs Po_countUpTo Po_count]) sz)) 0 0 (va_A (List.flatten [wPo cy hPo hPo_xs hPo_ys hPo_zs hPo_countUpTo Po_xs Po_ys Po_zs Po_countUpTo Po_count]) sz) := by
  refine Met.ofW (cc := cX2_addShell) (maxL := 6) (ret := none) (by decide) rfl ?_
  intro p e s m args below meth c s₁ B hml hv
  obtain ⟨rfl, hsz, hN, hP, hK, hD0⟩ := hv
  have hx := B.exec
  have hb := B.bytes
  have hr := B.returns
  have hts0 := atoms_spec (ws := wA yX2_addShell cX2_addShell 6 none) B.pre
  have hts := fun w (h : w ∈ wsL_law) => hts0 w (List.mem_cons_of_mem _ h)
  have hown : s.vm.findClass RX2 = some m.cls := findClass_of_methodNamed B.named
  have hlocks := B.notSynchronized
  subst hsz
  have hD := hD0.self (sz := s.heap.size)
  generalize hAe : va_A (List.flatten [wPo cy hPo hPo_xs hPo_ys hPo_zs hPo_countUpTo Po_xs Po_ys Po_zs Po_countUpTo Po_count]) s.heap.size = A at hD ⊢
  have hA : ∀ q : Nat, s.heap.size ≤ q → A q := fun q h => by rw [← hAe]; exact Or.inr h
  have hS : va_S A s.heap s.heap [] := va_S.rf
  have hP : va_P D vwCl (List.flatten [wPo cy hPo hPo_xs hPo_ys hPo_zs hPo_countUpTo Po_xs Po_ys Po_zs Po_countUpTo Po_count]) s.heap := hP
  have hl := lv_entry ([.ref hPo, .int p0, .int p1]) (n := 6) (Nat.le_of_ble_eq_true rfl)
  rw [lg_entry_eq]
  generalize (lg_sl ([.ref hPo, .int p0, .int p1]) ++ List.replicate (6 - (lg_sl ([.ref hPo, .int p0, .int p1])).length) Slot.unset).toArray = ls at hl ⊢
  have hl : lv_has ls 6 [(0, .ref hPo), (1, .int p0), (2, .int p1)] := hl
  unfold wp_X2_addShell at hw
  refine lv_iconst (v := 0) hx hb dX2_addShell_0 (by decide) ?_
  refine lv_istore_n (lv' := [(3, .int 0), (0, .ref hPo), (1, .int p0), (2, .int p1)]) hx hb dX2_addShell_1 rfl hl (by decide) rfl (fun ls hl => ?_)
  obtain ⟨n2, hw⟩ := hw
  have kl2 : ∀ (K2_85 : Int32 → (Nat → Int32) → (Nat → Int32) → (Nat → Int32) → Int32 → Prop) (hk2_85 : ∀ (y3_2 : Int32) (Po_xs_v_2 : Nat → Int32) (Po_ys_v_2 : Nat → Int32) (Po_zs_v_2 : Nat → Int32) (Po_count_v_2 : Int32) (H : Heap) (locs : List Loc) (ls : Array Slot), K2_85 y3_2 Po_xs_v_2 Po_ys_v_2 Po_zs_v_2 Po_count_v_2 → va_P D vwCl (List.flatten [wPo cy hPo hPo_xs hPo_ys hPo_zs hPo_countUpTo Po_xs_v_2 Po_ys_v_2 Po_zs_v_2 Po_countUpTo Po_count_v_2]) H → va_D A (List.flatten [wPo cy hPo hPo_xs hPo_ys hPo_zs hPo_countUpTo Po_xs_v_2 Po_ys_v_2 Po_zs_v_2 Po_countUpTo Po_count_v_2]) → va_S A s.heap H locs → lv_has ls 6 [(0, .ref hPo), (1, .int p0), (2, .int p1), (3, .int y3_2)] → W p l e (headSpec (wA yX2_addShell cX2_addShell 6 none) { frames := 4, cells := 0, slots := 0, locals := 93 }).room s m #[.ref hPo, .int p0, .int p1] below meth c H locs 0 0 (MQ below (va_Qv (fun (u : (Nat → Int32) × (Nat → Int32) × (Nat → Int32) × Int32) => Q u.1 u.2.1 u.2.2.1 u.2.2.2) (fun u t => kB D cy A (List.flatten [wPo cy hPo hPo_xs hPo_ys hPo_zs hPo_countUpTo u.1 u.2.1 u.2.2.1 Po_countUpTo u.2.2.2]) t) A) #[.ref hPo, .int p0, .int p1] s 0 0 A) (F0 m 85 ls [])) (n : Nat) (y3_2 : Int32) (Po_xs_v_2 : Nat → Int32) (Po_ys_v_2 : Nat → Int32) (Po_zs_v_2 : Nat → Int32) (Po_count_v_2 : Int32) (H : Heap) (locs : List Loc) (ls : Array Slot), wp_X2_addShell_L2 p0 p1 K2_85 n y3_2 Po_xs_v_2 Po_ys_v_2 Po_zs_v_2 Po_count_v_2 → va_P D vwCl (List.flatten [wPo cy hPo hPo_xs hPo_ys hPo_zs hPo_countUpTo Po_xs_v_2 Po_ys_v_2 Po_zs_v_2 Po_countUpTo Po_count_v_2]) H → va_D A (List.flatten [wPo cy hPo hPo_xs hPo_ys hPo_zs hPo_countUpTo Po_xs_v_2 Po_ys_v_2 Po_zs_v_2 Po_countUpTo Po_count_v_2]) → va_S A s.heap H locs → lv_has ls 6 [(0, .ref hPo), (1, .int p0), (2, .int p1), (3, .int y3_2)] → W p l e (headSpec (wA yX2_addShell cX2_addShell 6 none) { frames := 4, cells := 0, slots := 0, locals := 93 }).room s m #[.ref hPo, .int p0, .int p1] below meth c H locs 0 0 (MQ below (va_Qv (fun (u : (Nat → Int32) × (Nat → Int32) × (Nat → Int32) × Int32) => Q u.1 u.2.1 u.2.2.1 u.2.2.2) (fun u t => kB D cy A (List.flatten [wPo cy hPo hPo_xs hPo_ys hPo_zs hPo_countUpTo u.1 u.2.1 u.2.2.1 Po_countUpTo u.2.2.2]) t) A) #[.ref hPo, .int p0, .int p1] s 0 0 A) (F0 m 2 ls []) := by
    intro K2_85 hk2_85 n
    induction n with
    | zero =>
      intro y3_2 Po_xs_v_2 Po_ys_v_2 Po_zs_v_2 Po_count_v_2 H locs ls hw
      exact hw.elim
    | succ n ih2 =>
      intro y3_2 Po_xs_v_2 Po_ys_v_2 Po_zs_v_2 Po_count_v_2 H locs ls hw hP hD hS hl
      unfold wp_X2_addShell_L2 at hw
      refine lv_iload_n hx hb dX2_addShell_2 rfl (lv_at hl 3 rfl) ?_
      refine lv_iload_n hx hb dX2_addShell_3 rfl (lv_at hl 1 rfl) ?_
      refine lv_icmp_gt (tgt := 85) hx hb dX2_addShell_4 (by decide) (fun c2_2 => ?_) (fun c2_2 => ?_)
      · have hw := hw.1 c2_2
        exact hk2_85 y3_2 Po_xs_v_2 Po_ys_v_2 Po_zs_v_2 Po_count_v_2 _ _ ls hw hP hD hS (lv_sub hl [0, 1, 2, 3] rfl)
      · have hw := hw.2 c2_2
        refine lv_iload_n hx hb dX2_addShell_7 rfl (lv_at hl 1 rfl) ?_
        refine lv_ineg hx hb dX2_addShell_8 ?_
        refine lv_topi (fun x1_2 ex1_2 => ?_)
        have hw := hw x1_2 ex1_2
        refine lv_istore (lv' := [(4, .int x1_2), (0, .ref hPo), (1, .int p0), (2, .int p1), (3, .int y3_2)]) hx hb dX2_addShell_9 hl (by decide) rfl (fun ls hl => ?_)
        obtain ⟨n11, hw⟩ := hw
        have kl11 : ∀ (K11_79 : Int32 → (Nat → Int32) → (Nat → Int32) → (Nat → Int32) → Int32 → Prop) (hk11_79 : ∀ (y4_11 : Int32) (Po_xs_v_11 : Nat → Int32) (Po_ys_v_11 : Nat → Int32) (Po_zs_v_11 : Nat → Int32) (Po_count_v_11 : Int32) (H : Heap) (locs : List Loc) (ls : Array Slot), K11_79 y4_11 Po_xs_v_11 Po_ys_v_11 Po_zs_v_11 Po_count_v_11 → va_P D vwCl (List.flatten [wPo cy hPo hPo_xs hPo_ys hPo_zs hPo_countUpTo Po_xs_v_11 Po_ys_v_11 Po_zs_v_11 Po_countUpTo Po_count_v_11]) H → va_D A (List.flatten [wPo cy hPo hPo_xs hPo_ys hPo_zs hPo_countUpTo Po_xs_v_11 Po_ys_v_11 Po_zs_v_11 Po_countUpTo Po_count_v_11]) → va_S A s.heap H locs → lv_has ls 6 [(0, .ref hPo), (1, .int p0), (2, .int p1), (3, .int y3_2), (4, .int y4_11)] → W p l e (headSpec (wA yX2_addShell cX2_addShell 6 none) { frames := 4, cells := 0, slots := 0, locals := 93 }).room s m #[.ref hPo, .int p0, .int p1] below meth c H locs 0 0 (MQ below (va_Qv (fun (u : (Nat → Int32) × (Nat → Int32) × (Nat → Int32) × Int32) => Q u.1 u.2.1 u.2.2.1 u.2.2.2) (fun u t => kB D cy A (List.flatten [wPo cy hPo hPo_xs hPo_ys hPo_zs hPo_countUpTo u.1 u.2.1 u.2.2.1 Po_countUpTo u.2.2.2]) t) A) #[.ref hPo, .int p0, .int p1] s 0 0 A) (F0 m 79 ls [])) (n : Nat) (y4_11 : Int32) (Po_xs_v_11 : Nat → Int32) (Po_ys_v_11 : Nat → Int32) (Po_zs_v_11 : Nat → Int32) (Po_count_v_11 : Int32) (H : Heap) (locs : List Loc) (ls : Array Slot), wp_X2_addShell_L11 p0 p1 y3_2 K11_79 n y4_11 Po_xs_v_11 Po_ys_v_11 Po_zs_v_11 Po_count_v_11 → va_P D vwCl (List.flatten [wPo cy hPo hPo_xs hPo_ys hPo_zs hPo_countUpTo Po_xs_v_11 Po_ys_v_11 Po_zs_v_11 Po_countUpTo Po_count_v_11]) H → va_D A (List.flatten [wPo cy hPo hPo_xs hPo_ys hPo_zs hPo_countUpTo Po_xs_v_11 Po_ys_v_11 Po_zs_v_11 Po_countUpTo Po_count_v_11]) → va_S A s.heap H locs → lv_has ls 6 [(0, .ref hPo), (1, .int p0), (2, .int p1), (3, .int y3_2), (4, .int y4_11)] → W p l e (headSpec (wA yX2_addShell cX2_addShell 6 none) { frames := 4, cells := 0, slots := 0, locals := 93 }).room s m #[.ref hPo, .int p0, .int p1] below meth c H locs 0 0 (MQ below (va_Qv (fun (u : (Nat → Int32) × (Nat → Int32) × (Nat → Int32) × Int32) => Q u.1 u.2.1 u.2.2.1 u.2.2.2) (fun u t => kB D cy A (List.flatten [wPo cy hPo hPo_xs hPo_ys hPo_zs hPo_countUpTo u.1 u.2.1 u.2.2.1 Po_countUpTo u.2.2.2]) t) A) #[.ref hPo, .int p0, .int p1] s 0 0 A) (F0 m 11 ls []) := by
          intro K11_79 hk11_79 n
          induction n with
          | zero =>
            intro y4_11 Po_xs_v_11 Po_ys_v_11 Po_zs_v_11 Po_count_v_11 H locs ls hw
            exact hw.elim
          | succ n ih11 =>
            intro y4_11 Po_xs_v_11 Po_ys_v_11 Po_zs_v_11 Po_count_v_11 H locs ls hw hP hD hS hl
            unfold wp_X2_addShell_L11 at hw
            refine lv_iload hx hb dX2_addShell_11 (lv_at hl 4 rfl) ?_
            refine lv_iload_n hx hb dX2_addShell_13 rfl (lv_at hl 1 rfl) ?_
            refine lv_icmp_gt (tgt := 79) hx hb dX2_addShell_14 (by decide) (fun c2_11 => ?_) (fun c2_11 => ?_)
            · have hw := hw.1 c2_11
              exact hk11_79 y4_11 Po_xs_v_11 Po_ys_v_11 Po_zs_v_11 Po_count_v_11 _ _ ls hw hP hD hS (lv_sub hl [0, 1, 2, 3, 4] rfl)
            · have hw := hw.2 c2_11
              refine lv_iload_n hx hb dX2_addShell_17 rfl (lv_at hl 1 rfl) ?_
              refine lv_ineg hx hb dX2_addShell_18 ?_
              refine lv_topi (fun x1_11 ex1_11 => ?_)
              have hw := hw x1_11 ex1_11
              refine lv_istore (lv' := [(5, .int x1_11), (0, .ref hPo), (1, .int p0), (2, .int p1), (3, .int y3_2), (4, .int y4_11)]) hx hb dX2_addShell_19 hl (by decide) rfl (fun ls hl => ?_)
              obtain ⟨n21, hw⟩ := hw
              have kl21 : ∀ (K21_73 : Int32 → (Nat → Int32) → (Nat → Int32) → (Nat → Int32) → Int32 → Prop) (hk21_73 : ∀ (y5_21 : Int32) (Po_xs_v_21 : Nat → Int32) (Po_ys_v_21 : Nat → Int32) (Po_zs_v_21 : Nat → Int32) (Po_count_v_21 : Int32) (H : Heap) (locs : List Loc) (ls : Array Slot), K21_73 y5_21 Po_xs_v_21 Po_ys_v_21 Po_zs_v_21 Po_count_v_21 → va_P D vwCl (List.flatten [wPo cy hPo hPo_xs hPo_ys hPo_zs hPo_countUpTo Po_xs_v_21 Po_ys_v_21 Po_zs_v_21 Po_countUpTo Po_count_v_21]) H → va_D A (List.flatten [wPo cy hPo hPo_xs hPo_ys hPo_zs hPo_countUpTo Po_xs_v_21 Po_ys_v_21 Po_zs_v_21 Po_countUpTo Po_count_v_21]) → va_S A s.heap H locs → lv_has ls 6 [(0, .ref hPo), (1, .int p0), (2, .int p1), (3, .int y3_2), (4, .int y4_11), (5, .int y5_21)] → W p l e (headSpec (wA yX2_addShell cX2_addShell 6 none) { frames := 4, cells := 0, slots := 0, locals := 93 }).room s m #[.ref hPo, .int p0, .int p1] below meth c H locs 0 0 (MQ below (va_Qv (fun (u : (Nat → Int32) × (Nat → Int32) × (Nat → Int32) × Int32) => Q u.1 u.2.1 u.2.2.1 u.2.2.2) (fun u t => kB D cy A (List.flatten [wPo cy hPo hPo_xs hPo_ys hPo_zs hPo_countUpTo u.1 u.2.1 u.2.2.1 Po_countUpTo u.2.2.2]) t) A) #[.ref hPo, .int p0, .int p1] s 0 0 A) (F0 m 73 ls [])) (n : Nat) (y5_21 : Int32) (Po_xs_v_21 : Nat → Int32) (Po_ys_v_21 : Nat → Int32) (Po_zs_v_21 : Nat → Int32) (Po_count_v_21 : Int32) (H : Heap) (locs : List Loc) (ls : Array Slot), wp_X2_addShell_L21 p0 p1 y3_2 y4_11 K21_73 n y5_21 Po_xs_v_21 Po_ys_v_21 Po_zs_v_21 Po_count_v_21 → va_P D vwCl (List.flatten [wPo cy hPo hPo_xs hPo_ys hPo_zs hPo_countUpTo Po_xs_v_21 Po_ys_v_21 Po_zs_v_21 Po_countUpTo Po_count_v_21]) H → va_D A (List.flatten [wPo cy hPo hPo_xs hPo_ys hPo_zs hPo_countUpTo Po_xs_v_21 Po_ys_v_21 Po_zs_v_21 Po_countUpTo Po_count_v_21]) → va_S A s.heap H locs → lv_has ls 6 [(0, .ref hPo), (1, .int p0), (2, .int p1), (3, .int y3_2), (4, .int y4_11), (5, .int y5_21)] → W p l e (headSpec (wA yX2_addShell cX2_addShell 6 none) { frames := 4, cells := 0, slots := 0, locals := 93 }).room s m #[.ref hPo, .int p0, .int p1] below meth c H locs 0 0 (MQ below (va_Qv (fun (u : (Nat → Int32) × (Nat → Int32) × (Nat → Int32) × Int32) => Q u.1 u.2.1 u.2.2.1 u.2.2.2) (fun u t => kB D cy A (List.flatten [wPo cy hPo hPo_xs hPo_ys hPo_zs hPo_countUpTo u.1 u.2.1 u.2.2.1 Po_countUpTo u.2.2.2]) t) A) #[.ref hPo, .int p0, .int p1] s 0 0 A) (F0 m 21 ls []) := by
                intro K21_73 hk21_73 n
                induction n with
                | zero =>
                  intro y5_21 Po_xs_v_21 Po_ys_v_21 Po_zs_v_21 Po_count_v_21 H locs ls hw
                  exact hw.elim
                | succ n ih21 =>
                  intro y5_21 Po_xs_v_21 Po_ys_v_21 Po_zs_v_21 Po_count_v_21 H locs ls hw hP hD hS hl
                  unfold wp_X2_addShell_L21 at hw
                  refine lv_iload hx hb dX2_addShell_21 (lv_at hl 5 rfl) ?_
                  refine lv_iload_n hx hb dX2_addShell_23 rfl (lv_at hl 1 rfl) ?_
                  refine lv_icmp_gt (tgt := 73) hx hb dX2_addShell_24 (by decide) (fun c8_21 => ?_) (fun c8_21 => ?_)
                  · have hw := hw.1 c8_21
                    exact hk21_73 y5_21 Po_xs_v_21 Po_ys_v_21 Po_zs_v_21 Po_count_v_21 _ _ ls hw hP hD hS (lv_sub hl [0, 1, 2, 3, 4, 5] rfl)
                  · have hw := hw.2 c8_21
                    refine lv_iload_n hx hb dX2_addShell_27 rfl (lv_at hl 3 rfl) ?_
                    refine lv_iload_n hx hb dX2_addShell_28 rfl (lv_at hl 3 rfl) ?_
                    refine lv_imul hx hb dX2_addShell_29 ?_
                    refine lv_iload hx hb dX2_addShell_30 (lv_at hl 4 rfl) ?_
                    refine lv_iload hx hb dX2_addShell_32 (lv_at hl 4 rfl) ?_
                    refine lv_imul hx hb dX2_addShell_34 ?_
                    refine lv_iadd hx hb dX2_addShell_35 ?_
                    refine lv_iload hx hb dX2_addShell_36 (lv_at hl 5 rfl) ?_
                    refine lv_iload hx hb dX2_addShell_38 (lv_at hl 5 rfl) ?_
                    refine lv_imul hx hb dX2_addShell_40 ?_
                    refine lv_iadd hx hb dX2_addShell_41 ?_
                    refine lv_iload_n hx hb dX2_addShell_42 rfl (lv_at hl 2 rfl) ?_
                    refine lv_icmp_ne (tgt := 67) hx hb dX2_addShell_43 (by decide) (fun c7_21 => ?_) (fun c7_21 => ?_)
                    · have hw := hw.2 c7_21
                      refine lv_iinc (v := y5_21 + 1) (lv' := [(5, .int (y5_21 + 1)), (0, .ref hPo), (1, .int p0), (2, .int p1), (3, .int y3_2), (4, .int y4_11)]) hx hb dX2_addShell_67 hl (k := 5) rfl rfl (by decide) rfl (fun ls hl => ?_)
                      refine lv_goto (tgt := 21) hx hb dX2_addShell_70 (by decide) ?_
                      exact ih21 (y5_21 + 1) Po_xs_v_21 Po_ys_v_21 Po_zs_v_21 Po_count_v_21 _ _ ls hw hP hD hS (lv_sub hl [1, 2, 3, 4, 5, 0] rfl)
                    · have hw := hw.1 c7_21
                      refine lv_iload_n hx hb dX2_addShell_46 rfl (lv_at hl 1 rfl) ?_
                      refine lv_iload_n hx hb dX2_addShell_47 rfl (lv_at hl 3 rfl) ?_
                      refine lv_iload hx hb dX2_addShell_48 (lv_at hl 4 rfl) ?_
                      refine lv_iload hx hb dX2_addShell_50 (lv_at hl 5 rfl) ?_
                      refine kc_i (va_runS (As := [.int p0, .int y3_2, .int y4_11, .int y5_21]) (rest := []) ⟨hx, hb, hml, hown, hts⟩ (k_X2_reaches l D cy p0 y3_2 y4_11 y5_21 _ _ hw) (va_cwS 4 hts (gS mw_3_8 mw_3_9 mw_1_18 mw_3_10) rfl rfl rfl (by decide +kernel) ⟨Nat.le_of_ble_eq_true rfl, Nat.le_of_ble_eq_true rfl⟩) (fPre hN hK hP hD [] rfl rfl _) rfl rfl hl.1 rfl (lv_room (Nat.le_of_ble_eq_true rfl)) dX2_addShell_52 ⟨Nat.zero_le _, Nat.zero_le _⟩) (fun r1_21 hw => ?_)
                      refine lv_if_eq (tgt := 67) hx hb dX2_addShell_55 (by decide) (fun c6_21 => ?_) (fun c6_21 => ?_)
                      · have hw := hw.1 c6_21
                        refine lv_iinc (v := y5_21 + 1) (lv' := [(5, .int (y5_21 + 1)), (0, .ref hPo), (1, .int p0), (2, .int p1), (3, .int y3_2), (4, .int y4_11)]) hx hb dX2_addShell_67 hl (k := 5) rfl rfl (by decide) rfl (fun ls hl => ?_)
                        refine lv_goto (tgt := 21) hx hb dX2_addShell_70 (by decide) ?_
                        exact ih21 (y5_21 + 1) Po_xs_v_21 Po_ys_v_21 Po_zs_v_21 Po_count_v_21 _ _ ls hw hP hD hS (lv_sub hl [1, 2, 3, 4, 5, 0] rfl)
                      · have hw := hw.2 c6_21
                        refine lv_aload_n hx hb dX2_addShell_58 rfl (lv_at hl 0 rfl) ?_
                        refine lv_iload_n hx hb dX2_addShell_59 rfl (lv_at hl 3 rfl) ?_
                        refine lv_iload hx hb dX2_addShell_60 (lv_at hl 4 rfl) ?_
                        refine lv_iload hx hb dX2_addShell_62 (lv_at hl 5 rfl) ?_
                        refine fd_v [0] [] hP hD hS hA rfl rfl rfl (by decide) (va_runV (As := [.int y3_2, .int y4_11, .int y5_21]) (rest := []) ⟨hx, hb, hml, hown, hts⟩ (k_X2_addIfPole l D cy hPo hPo_xs hPo_ys hPo_zs hPo_countUpTo Po_xs_v_21 Po_ys_v_21 Po_zs_v_21 Po_countUpTo Po_count_v_21 y3_2 y4_11 y5_21 _ _ hw) (cwV 3 hts (gV mw_3_15 mw_3_16 mw_3_17 mw_1_18 mw_3_18) rfl rfl rfl (by decide +kernel) ⟨Nat.le_of_ble_eq_true rfl, Nat.le_of_ble_eq_true rfl⟩) (fPreV hN hK hP hD [0] rfl rfl 0 (ci := 2) rfl rfl rfl _) rfl rfl hl.1 rfl (lv_room (Nat.le_of_ble_eq_true rfl)) dX2_addShell_64 ⟨Nat.zero_le _, Nat.zero_le _⟩) (fun u H locs hw hP hD hS => ?_)
                        obtain ⟨w2_21, w3_21, w4_21, w5_21⟩ := u
                        try dsimp only at hw
                        have hP : va_P D vwCl (List.flatten [wPo cy hPo hPo_xs hPo_ys hPo_zs hPo_countUpTo w2_21 w3_21 w4_21 Po_countUpTo w5_21]) H := fl_P hP [0] rfl
                        have hD : va_D A (List.flatten [wPo cy hPo hPo_xs hPo_ys hPo_zs hPo_countUpTo w2_21 w3_21 w4_21 Po_countUpTo w5_21]) := fl_D hD [0] rfl rfl
                        refine lv_iinc (v := y5_21 + 1) (lv' := [(5, .int (y5_21 + 1)), (0, .ref hPo), (1, .int p0), (2, .int p1), (3, .int y3_2), (4, .int y4_11)]) hx hb dX2_addShell_67 hl (k := 5) rfl rfl (by decide) rfl (fun ls hl => ?_)
                        refine lv_goto (tgt := 21) hx hb dX2_addShell_70 (by decide) ?_
                        exact ih21 (y5_21 + 1) w2_21 w3_21 w4_21 w5_21 _ _ ls hw hP hD hS (lv_sub hl [1, 2, 3, 4, 5, 0] rfl)
              refine kl21 _ ?_ n21 x1_11 Po_xs_v_11 Po_ys_v_11 Po_zs_v_11 Po_count_v_11 _ _ ls hw hP hD hS (lv_sub hl [1, 2, 3, 4, 5, 0] rfl)
              · intro y5_21 Po_xs_v_21 Po_ys_v_21 Po_zs_v_21 Po_count_v_21 H locs ls hw hP hD hS hl
                refine lv_iinc (v := y4_11 + 1) (lv' := [(4, .int (y4_11 + 1)), (0, .ref hPo), (1, .int p0), (2, .int p1), (3, .int y3_2), (5, .int y5_21)]) hx hb dX2_addShell_73 hl (k := 4) rfl rfl (by decide) rfl (fun ls hl => ?_)
                refine lv_goto (tgt := 11) hx hb dX2_addShell_76 (by decide) ?_
                exact ih11 (y4_11 + 1) Po_xs_v_21 Po_ys_v_21 Po_zs_v_21 Po_count_v_21 _ _ ls hw hP hD hS (lv_sub hl [1, 2, 3, 4, 0] rfl)
        refine kl11 _ ?_ n11 x1_2 Po_xs_v_2 Po_ys_v_2 Po_zs_v_2 Po_count_v_2 _ _ ls hw hP hD hS (lv_sub hl [1, 2, 3, 4, 0] rfl)
        · intro y4_11 Po_xs_v_11 Po_ys_v_11 Po_zs_v_11 Po_count_v_11 H locs ls hw hP hD hS hl
          refine lv_iinc (v := y3_2 + 1) (lv' := [(3, .int (y3_2 + 1)), (0, .ref hPo), (1, .int p0), (2, .int p1), (4, .int y4_11)]) hx hb dX2_addShell_79 hl (k := 3) rfl rfl (by decide) rfl (fun ls hl => ?_)
          refine lv_goto (tgt := 2) hx hb dX2_addShell_82 (by decide) ?_
          exact ih2 (y3_2 + 1) Po_xs_v_11 Po_ys_v_11 Po_zs_v_11 Po_count_v_11 _ _ ls hw hP hD hS (lv_sub hl [1, 2, 3, 0] rfl)
  refine kl2 _ ?_ n2 0 Po_xs Po_ys Po_zs Po_count _ _ ls hw hP hD hS (lv_sub hl [1, 2, 3, 0] rfl)
  · intro y3_2 Po_xs_v_2 Po_ys_v_2 Po_zs_v_2 Po_count_v_2 H locs ls hw hP hD hS hl
    exact W.vret hx hb hr (fun t ht hW => ⟨⟨(Po_xs_v_2, Po_ys_v_2, Po_zs_v_2, Po_count_v_2), rfl, hw, ⟨by rw [ht]; exact hP, va_K.moved hW.alike hK, hD⟩⟩, hS.F ht⟩) hS.2.2 dX2_addShell_85
