set_option maxHeartbeats 4000000 in
set_option maxRecDepth 100000 in
theorem k_X5_pair (l : Launch) (D : va_G) (cy : Nat → ClassId) (hSP hSP_rankings hSt hPo hRa hRa_misfits hRa_nodals hRa_order hRa_places hRa_counted hRa_begins hPl hBu hPl_lesser hPl_greater hPl_axisOf hPl_axisXs hPl_axisYs hPl_axisZs hPl_axisSquares hPl_poleSigns ns nn np nq : Nat) (SP_rankings : Nat → Option Nat) (SP_sizeNow : Int32) (SP_extraNow : Int32) (SP_version : Int32) (Ra_misfits : Nat → Int32) (Ra_nodals : Nat → Int32) (Ra_order : Nat → Int32) (Ra_places : Nat → Int32) (Ra_keptCount : Int32) (Ra_least : Int32) (Ra_version : Int32) (Ra_counted : Nat → Int32) (Ra_begins : Nat → Int32) (Pl_poleCount : Int32) (Pl_pairCount : Int32) (Pl_lesser : Nat → Int32) (Pl_greater : Nat → Int32) (Pl_axisOf : Nat → Int32) (Pl_axisXs : Nat → Int32) (Pl_axisYs : Nat → Int32) (Pl_axisZs : Nat → Int32) (Pl_axisSquares : Nat → Int32) (Pl_axisCount : Int32) (Pl_poleSigns : Nat → Int32) (p0 : Int32) (p1 : Int32) (sz : Nat) (Q : Int32 → Prop) (hw : wp_X5_pair p0 p1 ns nn np nq Pl_pairCount Pl_lesser Pl_greater Q) : Met l yX5_pair (wA yX5_pair cX5_pair 4 (some .int)) { frames := 0, cells := 0, slots := 0, locals := 0 } (kPc [.ref hSP, .int p0, .int p1] D cy (List.flatten [wSP cy hSP hSP_rankings hSt hPo hRa SP_rankings SP_sizeNow SP_extraNow SP_version, wRa cy hRa hRa_misfits hRa_nodals hRa_order hRa_places hRa_counted hRa_begins hPl hBu ns nn Ra_misfits Ra_nodals Ra_order Ra_places Ra_keptCount Ra_least Ra_version Ra_counted Ra_begins, wPl cy hPl hPl_lesser hPl_greater hPl_axisOf hPl_axisXs hPl_axisYs hPl_axisZs hPl_axisSquares hPl_poleSigns hPo np nq Pl_poleCount Pl_pairCount Pl_lesser Pl_greater Pl_axisOf Pl_axisXs Pl_axisYs Pl_axisZs Pl_axisSquares Pl_axisCount Pl_poleSigns]) sz) (kSi Q) 0 0 (fun _ => False) := by
  refine Met.ofW (cc := cX5_pair) (maxL := 4) (ret := (some .int)) (by decide) rfl ?_
  intro p e s m args below meth c s₁ B hml hv
  obtain ⟨rfl, hsz, hN, hP, hK, hD0⟩ := hv
  have hx := B.exec
  have hb := B.bytes
  have hr := B.returns
  have hts0 := atoms_spec (ws := wA yX5_pair cX5_pair 4 (some .int)) B.pre
  have hts := fun w (h : w ∈ wsL_law) => hts0 w (List.mem_cons_of_mem _ h)
  have hown : s.vm.findClass RX5 = some m.cls := findClass_of_methodNamed B.named
  have hlocks := B.notSynchronized
  subst hsz
  have hD := hD0
  have hl := lv_entry ([.ref hSP, .int p0, .int p1]) (n := 4) (Nat.le_of_ble_eq_true rfl)
  rw [lg_entry_eq]
  generalize (lg_sl ([.ref hSP, .int p0, .int p1]) ++ List.replicate (4 - (lg_sl ([.ref hSP, .int p0, .int p1])).length) Slot.unset).toArray = ls at hl ⊢
  have hl : lv_has ls 4 [(0, .ref hSP), (1, .int p0), (2, .int p1)] := hl
  unfold wp_X5_pair at hw
  refine lv_aload_n hx hb dX5_pair_0 rfl (lv_at hl 0 rfl) ?_
  refine va_get (D := D) (ci := 5) (v := .ref hRa) (C := RX5) (T := TX5) (N := 7) hx hb hts inlX5 hown hK hP 0 rfl rfl 3 (by decide) (hts (.fieldLink RX5 47 "SquarePlanes" "current" "LSquarePlanes$Ranking;") mw_2_5) (fun _ h9 => h9) rfl dX5_pair_1 ?_
  refine va_get (D := D) (ci := 3) (v := .ref hPl) (C := RX3) (T := TX3) (N := 11) hx hb hts inlX3 hown hK hP 2 rfl rfl 0 (by decide) (hts (.fieldLink RX5 118 "SquarePlanes$Ranking" "planes" "LSquarePlanes$Planes;") mw_20_13) (fun _ h9 => h9) rfl dX5_pair_4 ?_
  refine lv_astore_n (lv' := [(3, .ref hPl), (0, .ref hSP), (1, .int p0), (2, .int p1)]) hx hb dX5_pair_7 rfl hl (by decide) rfl (fun ls hl => ?_)
  refine lv_iload_n hx hb dX5_pair_8 rfl (lv_at hl 2 rfl) ?_
  refine lv_if_lt (tgt := 20) hx hb dX5_pair_9 (by decide) (fun c4 => ?_) (fun c4 => ?_)
  · have hw := hw.1 c4
    refine lv_iconst (v := (-1)) hx hb dX5_pair_20 (by decide) ?_
    exact W.iret (v := (-1)) hx hb hr (fun t ht hW => ⟨(-1), rfl, hw, ht⟩) (fun q h => by cases h) dX5_pair_21
  · have hw := hw.2 c4
    refine lv_iload_n hx hb dX5_pair_12 rfl (lv_at hl 2 rfl) ?_
    refine lv_aload_n hx hb dX5_pair_13 rfl (lv_at hl 0 rfl) ?_
    refine va_get (D := D) (ci := 1) (v := .int Pl_pairCount) (C := RX1) (T := TX1) (N := 12) hx hb hts inlX1 hown hK hP 9 rfl rfl 2 (by decide) (hts (.fieldLink RX5 122 "SquarePlanes$Planes" "pairCount" "I") mw_20_14) (fun _ h9 => h9) rfl dX5_pair_14 ?_
    refine lv_icmp_lt (tgt := 22) hx hb dX5_pair_17 (by decide) (fun c3 => ?_) (fun c3 => ?_)
    · have hw := hw.1 c3
      refine lv_iload_n hx hb dX5_pair_22 rfl (lv_at hl 3 rfl) ?_
      refine lv_if_ne (tgt := 33) hx hb dX5_pair_23 (by decide) (fun c2 => ?_) (fun c2 => ?_)
      · have hw := hw.2 c2
        refine lv_iload_n hx hb dX5_pair_33 rfl (lv_at hl 3 rfl) ?_
        refine lv_iconst (v := 1) hx hb dX5_pair_34 (by decide) ?_
        refine lv_icmp_ne (tgt := 47) hx hb dX5_pair_35 (by decide) (fun c1 => ?_) (fun c1 => ?_)
        · have hw := hw.2 c1
          refine lv_bipush (v := (-2)) hx hb dX5_pair_47 (by decide) ?_
          exact W.iret (v := (-2)) hx hb hr (fun t ht hW => ⟨(-2), rfl, hw, ht⟩) (fun q h => by cases h) dX5_pair_49
        · have hw := hw.1 c1
          refine lv_aload_n hx hb dX5_pair_38 rfl (lv_at hl 0 rfl) ?_
          refine va_get (D := D) (ci := 1) (v := .ref hPl_greater) (C := RX1) (T := TX1) (N := 12) hx hb hts inlX1 hown hK hP 9 rfl rfl 4 (by decide) (hts (.fieldLink RX5 128 "SquarePlanes$Planes" "greater" "[I") mw_20_16) (fun _ h9 => h9) rfl dX5_pair_39 ?_
          refine lv_iload_n hx hb dX5_pair_42 rfl (lv_at hl 2 rfl) ?_
          refine va_iald hx hb hK hP 11 0 rfl rfl hw.1 dX5_pair_43 ?_
          have hw := hw.2
          refine lv_goto (tgt := 49) hx hb dX5_pair_44 (by decide) ?_
          exact W.iret (v := Pl_greater p0.toNatClampNeg) hx hb hr (fun t ht hW => ⟨Pl_greater p0.toNatClampNeg, rfl, hw, ht⟩) (fun q h => by cases h) dX5_pair_49
      · have hw := hw.1 c2
        refine lv_aload_n hx hb dX5_pair_26 rfl (lv_at hl 0 rfl) ?_
        refine va_get (D := D) (ci := 1) (v := .ref hPl_lesser) (C := RX1) (T := TX1) (N := 12) hx hb hts inlX1 hown hK hP 9 rfl rfl 3 (by decide) (hts (.fieldLink RX5 125 "SquarePlanes$Planes" "lesser" "[I") mw_20_15) (fun _ h9 => h9) rfl dX5_pair_27 ?_
        refine lv_iload_n hx hb dX5_pair_30 rfl (lv_at hl 2 rfl) ?_
        refine va_iald hx hb hK hP 10 0 rfl rfl hw.1 dX5_pair_31 ?_
        have hw := hw.2
        exact W.iret (v := Pl_lesser p0.toNatClampNeg) hx hb hr (fun t ht hW => ⟨Pl_lesser p0.toNatClampNeg, rfl, hw, ht⟩) (fun q h => by cases h) dX5_pair_32
    · have hw := hw.2 c3
      refine lv_iconst (v := (-1)) hx hb dX5_pair_20 (by decide) ?_
      exact W.iret (v := (-1)) hx hb hr (fun t ht hW => ⟨(-1), rfl, hw, ht⟩) (fun q h => by cases h) dX5_pair_21
set_option maxHeartbeats 4000000 in
set_option maxRecDepth 100000 in
theorem k_X5_isPole (l : Launch) (D : va_G) (cy : Nat → ClassId) (hSP hSP_rankings hSt hPo hRa hPo_xs hPo_ys hPo_zs hPo_countUpTo : Nat) (SP_rankings : Nat → Option Nat) (SP_sizeNow : Int32) (SP_extraNow : Int32) (SP_version : Int32) (Po_xs : Nat → Int32) (Po_ys : Nat → Int32) (Po_zs : Nat → Int32) (Po_countUpTo : Nat → Int32) (Po_count : Int32) (p0 : Int32) (sz : Nat) (Q : Int32 → Prop) (hw : wp_X5_isPole p0 SP_sizeNow Po_countUpTo Q) : Met l yX5_isPole (wA yX5_isPole cX5_isPole 2 (some .boolean)) { frames := 0, cells := 0, slots := 0, locals := 0 } (kPc [.ref hSP, .int p0] D cy (List.flatten [wSP cy hSP hSP_rankings hSt hPo hRa SP_rankings SP_sizeNow SP_extraNow SP_version, wPo cy hPo hPo_xs hPo_ys hPo_zs hPo_countUpTo Po_xs Po_ys Po_zs Po_countUpTo Po_count]) sz) (kSi Q) 0 0 (fun _ => False) := by
  refine Met.ofW (cc := cX5_isPole) (maxL := 2) (ret := (some .boolean)) (by decide) rfl ?_
  intro p e s m args below meth c s₁ B hml hv
  obtain ⟨rfl, hsz, hN, hP, hK, hD0⟩ := hv
  have hx := B.exec
  have hb := B.bytes
  have hr := B.returns
  have hts0 := atoms_spec (ws := wA yX5_isPole cX5_isPole 2 (some .boolean)) B.pre
  have hts := fun w (h : w ∈ wsL_law) => hts0 w (List.mem_cons_of_mem _ h)
  have hown : s.vm.findClass RX5 = some m.cls := findClass_of_methodNamed B.named
  have hlocks := B.notSynchronized
  subst hsz
  have hD := hD0
  have hl := lv_entry ([.ref hSP, .int p0]) (n := 2) (Nat.le_of_ble_eq_true rfl)
  rw [lg_entry_eq]
  generalize (lg_sl ([.ref hSP, .int p0]) ++ List.replicate (2 - (lg_sl ([.ref hSP, .int p0])).length) Slot.unset).toArray = ls at hl ⊢
  have hl : lv_has ls 2 [(0, .ref hSP), (1, .int p0)] := hl
  unfold wp_X5_isPole at hw
  refine lv_iload_n hx hb dX5_isPole_0 rfl (lv_at hl 1 rfl) ?_
  refine lv_if_lt (tgt := 24) hx hb dX5_isPole_1 (by decide) (fun c2 => ?_) (fun c2 => ?_)
  · have hw := hw.1 c2
    refine lv_iconst (v := 0) hx hb dX5_isPole_24 (by decide) ?_
    exact W.zret (v := 0) hx hb hr rfl (fun t ht hW => ⟨0, rfl, hw, ht⟩) (fun q h => by cases h) dX5_isPole_25
  · have hw := hw.2 c2
    refine lv_iload_n hx hb dX5_isPole_4 rfl (lv_at hl 1 rfl) ?_
    refine lv_aload_n hx hb dX5_isPole_5 rfl (lv_at hl 0 rfl) ?_
    refine va_get (D := D) (ci := 5) (v := .ref hPo) (C := RX5) (T := TX5) (N := 7) hx hb hts inlX5 hown hK hP 0 rfl rfl 1 (by decide) (hts (.fieldLink RX5 21 "SquarePlanes" "poles" "LSquarePlanes$Poles;") mw_1_19) (fun _ h9 => h9) rfl dX5_isPole_6 ?_
    refine va_get (D := D) (ci := 2) (v := .ref hPo_countUpTo) (C := RX2) (T := TX2) (N := 5) hx hb hts inlX2 hown hK hP 2 rfl rfl 3 (by decide) (hts (.fieldLink RX5 37 "SquarePlanes$Poles" "countUpTo" "[I") mw_2_4) (fun _ h9 => h9) rfl dX5_isPole_9 ?_
    refine lv_aload_n hx hb dX5_isPole_12 rfl (lv_at hl 0 rfl) ?_
    refine va_get (D := D) (ci := 5) (v := .int SP_sizeNow) (C := RX5) (T := TX5) (N := 7) hx hb hts inlX5 hown hK hP 0 rfl rfl 4 (by decide) (hts (.fieldLink RX5 31 "SquarePlanes" "sizeNow" "I") mw_1_22) (fun _ h9 => h9) rfl dX5_isPole_13 ?_
    refine va_iald hx hb hK hP 6 0 rfl rfl hw.1 dX5_isPole_16 ?_
    have hw := hw.2
    refine lv_icmp_ge (tgt := 24) hx hb dX5_isPole_17 (by decide) (fun c1 => ?_) (fun c1 => ?_)
    · have hw := hw.1 c1
      refine lv_iconst (v := 0) hx hb dX5_isPole_24 (by decide) ?_
      exact W.zret (v := 0) hx hb hr rfl (fun t ht hW => ⟨0, rfl, hw, ht⟩) (fun q h => by cases h) dX5_isPole_25
    · have hw := hw.2 c1
      refine lv_iconst (v := 1) hx hb dX5_isPole_20 (by decide) ?_
      refine lv_goto (tgt := 25) hx hb dX5_isPole_21 (by decide) ?_
      exact W.zret (v := 1) hx hb hr rfl (fun t ht hW => ⟨1, rfl, hw, ht⟩) (fun q h => by cases h) dX5_isPole_25
set_option maxHeartbeats 4000000 in
set_option maxRecDepth 100000 in
theorem k_X5_isNumber (l : Launch) (D : va_G) (cy : Nat → ClassId) (p0 : Int32) (sz : Nat) (Q : Int32 → Prop) (hw : wp_X5_isNumber p0 Q) : Met l yX5_isNumber (wA yX5_isNumber cX5_isNumber 1 (some .boolean)) { frames := 0, cells := 0, slots := 0, locals := 0 } (kPc [.int p0] D cy (List.flatten ([] : List va_W)) sz) (kSi Q) 0 0 (fun _ => False) := by
  refine Met.ofW (cc := cX5_isNumber) (maxL := 1) (ret := (some .boolean)) (by decide) rfl ?_
  intro p e s m args below meth c s₁ B hml hv
  obtain ⟨rfl, hsz, hN, hP, hK, hD0⟩ := hv
  have hx := B.exec
  have hb := B.bytes
  have hr := B.returns
  have hts0 := atoms_spec (ws := wA yX5_isNumber cX5_isNumber 1 (some .boolean)) B.pre
  have hts := fun w (h : w ∈ wsL_law) => hts0 w (List.mem_cons_of_mem _ h)
  have hown : s.vm.findClass RX5 = some m.cls := findClass_of_methodNamed B.named
  have hlocks := B.notSynchronized
  subst hsz
  have hD := hD0
  have hl := lv_entry ([.int p0]) (n := 1) (Nat.le_of_ble_eq_true rfl)
  rw [lg_entry_eq]
  generalize (lg_sl ([.int p0]) ++ List.replicate (1 - (lg_sl ([.int p0])).length) Slot.unset).toArray = ls at hl ⊢
  have hl : lv_has ls 1 [(0, .int p0)] := hl
  unfold wp_X5_isNumber at hw
  refine lv_iload_n hx hb dX5_isNumber_0 rfl (lv_at hl 0 rfl) ?_
  refine lv_bipush (v := (-9)) hx hb dX5_isNumber_1 (by decide) ?_
  refine lv_icmp_lt (tgt := 16) hx hb dX5_isNumber_3 (by decide) (fun c2 => ?_) (fun c2 => ?_)
  · have hw := hw.1 c2
    refine lv_iconst (v := 0) hx hb dX5_isNumber_16 (by decide) ?_
    exact W.zret (v := 0) hx hb hr rfl (fun t ht hW => ⟨0, rfl, hw, ht⟩) (fun q h => by cases h) dX5_isNumber_17
  · have hw := hw.2 c2
    refine lv_iload_n hx hb dX5_isNumber_6 rfl (lv_at hl 0 rfl) ?_
    refine lv_bipush (v := 9) hx hb dX5_isNumber_7 (by decide) ?_
    refine lv_icmp_gt (tgt := 16) hx hb dX5_isNumber_9 (by decide) (fun c1 => ?_) (fun c1 => ?_)
    · have hw := hw.1 c1
      refine lv_iconst (v := 0) hx hb dX5_isNumber_16 (by decide) ?_
      exact W.zret (v := 0) hx hb hr rfl (fun t ht hW => ⟨0, rfl, hw, ht⟩) (fun q h => by cases h) dX5_isNumber_17
    · have hw := hw.2 c1
      refine lv_iconst (v := 1) hx hb dX5_isNumber_12 (by decide) ?_
      refine lv_goto (tgt := 17) hx hb dX5_isNumber_13 (by decide) ?_
      exact W.zret (v := 1) hx hb hr rfl (fun t ht hW => ⟨1, rfl, hw, ht⟩) (fun q h => by cases h) dX5_isNumber_17
set_option maxHeartbeats 4000000 in
set_option maxRecDepth 100000 in
theorem k_X5_signOf (l : Launch) (D : va_G) (cy : Nat → ClassId) (p0 : Int32) (sz : Nat) (Q : Int32 → Prop) (hw : wp_X5_signOf p0 Q) : Met l yX5_signOf (wA yX5_signOf cX5_signOf 1 (some .int)) { frames := 0, cells := 0, slots := 0, locals := 0 } (kPc [.int p0] D cy (List.flatten ([] : List va_W)) sz) (kSi Q) 0 0 (fun _ => False) := by
  refine Met.ofW (cc := cX5_signOf) (maxL := 1) (ret := (some .int)) (by decide) rfl ?_
  intro p e s m args below meth c s₁ B hml hv
  obtain ⟨rfl, hsz, hN, hP, hK, hD0⟩ := hv
  have hx := B.exec
  have hb := B.bytes
  have hr := B.returns
  have hts0 := atoms_spec (ws := wA yX5_signOf cX5_signOf 1 (some .int)) B.pre
  have hts := fun w (h : w ∈ wsL_law) => hts0 w (List.mem_cons_of_mem _ h)
  have hown : s.vm.findClass RX5 = some m.cls := findClass_of_methodNamed B.named
  have hlocks := B.notSynchronized
  subst hsz
  have hD := hD0
  have hl := lv_entry ([.int p0]) (n := 1) (Nat.le_of_ble_eq_true rfl)
  rw [lg_entry_eq]
  generalize (lg_sl ([.int p0]) ++ List.replicate (1 - (lg_sl ([.int p0])).length) Slot.unset).toArray = ls at hl ⊢
  have hl : lv_has ls 1 [(0, .int p0)] := hl
  unfold wp_X5_signOf at hw
  refine lv_iload_n hx hb dX5_signOf_0 rfl (lv_at hl 0 rfl) ?_
  refine lv_if_le (tgt := 8) hx hb dX5_signOf_1 (by decide) (fun c2 => ?_) (fun c2 => ?_)
  · have hw := hw.1 c2
    refine lv_iload_n hx hb dX5_signOf_8 rfl (lv_at hl 0 rfl) ?_
    refine lv_if_ge (tgt := 16) hx hb dX5_signOf_9 (by decide) (fun c1 => ?_) (fun c1 => ?_)
    · have hw := hw.1 c1
      refine lv_iconst (v := 0) hx hb dX5_signOf_16 (by decide) ?_
      exact W.iret (v := 0) hx hb hr (fun t ht hW => ⟨0, rfl, hw, ht⟩) (fun q h => by cases h) dX5_signOf_17
    · have hw := hw.2 c1
      refine lv_iconst (v := (-1)) hx hb dX5_signOf_12 (by decide) ?_
      refine lv_goto (tgt := 17) hx hb dX5_signOf_13 (by decide) ?_
      exact W.iret (v := (-1)) hx hb hr (fun t ht hW => ⟨(-1), rfl, hw, ht⟩) (fun q h => by cases h) dX5_signOf_17
  · have hw := hw.2 c2
    refine lv_iconst (v := 1) hx hb dX5_signOf_4 (by decide) ?_
    refine lv_goto (tgt := 17) hx hb dX5_signOf_5 (by decide) ?_
    exact W.iret (v := 1) hx hb hr (fun t ht hW => ⟨1, rfl, hw, ht⟩) (fun q h => by cases h) dX5_signOf_17
set_option maxHeartbeats 4000000 in
set_option maxRecDepth 100000 in
theorem k_X5_commonDivisor (l : Launch) (D : va_G) (cy : Nat → ClassId) (p0 : Int32) (p1 : Int32) (sz : Nat) (Q : Int32 → Prop) (hw : wp_X5_commonDivisor p0 p1 Q) : Met l yX5_commonDivisor (wA yX5_commonDivisor cX5_commonDivisor 6 (some .int)) { frames := 1, cells := 0, slots := 0, locals := 21 } (kPc [.int p0, .int p1] D cy (List.flatten ([] : List va_W)) sz) (kSi Q) 0 0 (fun _ => False) := by
  refine Met.ofW (cc := cX5_commonDivisor) (maxL := 6) (ret := (some .int)) (by decide) rfl ?_
  intro p e s m args below meth c s₁ B hml hv
  obtain ⟨rfl, hsz, hN, hP, hK, hD0⟩ := hv
  have hx := B.exec
  have hb := B.bytes
  have hr := B.returns
  have hts0 := atoms_spec (ws := wA yX5_commonDivisor cX5_commonDivisor 6 (some .int)) B.pre
  have hts := fun w (h : w ∈ wsL_law) => hts0 w (List.mem_cons_of_mem _ h)
  have hown : s.vm.findClass RX5 = some m.cls := findClass_of_methodNamed B.named
  have hlocks := B.notSynchronized
  subst hsz
  have hD := hD0
  have hl := lv_entry ([.int p0, .int p1]) (n := 6) (Nat.le_of_ble_eq_true rfl)
  rw [lg_entry_eq]
  generalize (lg_sl ([.int p0, .int p1]) ++ List.replicate (6 - (lg_sl ([.int p0, .int p1])).length) Slot.unset).toArray = ls at hl ⊢
  have hl : lv_has ls 6 [(0, .int p0), (1, .int p1)] := hl
  unfold wp_X5_commonDivisor at hw
  refine lv_iload_n hx hb dX5_commonDivisor_0 rfl (lv_at hl 0 rfl) ?_
  refine va_mabs hx hb (by rw [hml]; exact hl.1.symm) hown (hts (.methodLink RX5 249 Lib.Math.abs.name) mw_4_0) (hts (.static Lib.Math.abs.name) mw_3_12) (hts (.initialized "java/lang/Math") mw_3_13) (hts (.code Lib.Math.abs.name Lib.Math.abs.code 1 (some .int)) mw_3_14) (Nat.le_of_ble_eq_true rfl) (Nat.le_of_ble_eq_true rfl) (Nat.zero_le _) (Nat.zero_le _) dX5_commonDivisor_1 ?_
  refine lv_topi (fun x1 ex1 => ?_)
  have hw := hw x1 ex1
  refine lv_istore_n (lv' := [(2, .int x1), (0, .int p0), (1, .int p1)]) hx hb dX5_commonDivisor_4 rfl hl (by decide) rfl (fun ls hl => ?_)
  refine lv_iload_n hx hb dX5_commonDivisor_5 rfl (lv_at hl 2 rfl) ?_
  refine va_mabs hx hb (by rw [hml]; exact hl.1.symm) hown (hts (.methodLink RX5 249 Lib.Math.abs.name) mw_4_0) (hts (.static Lib.Math.abs.name) mw_3_12) (hts (.initialized "java/lang/Math") mw_3_13) (hts (.code Lib.Math.abs.name Lib.Math.abs.code 1 (some .int)) mw_3_14) (Nat.le_of_ble_eq_true rfl) (Nat.le_of_ble_eq_true rfl) (Nat.zero_le _) (Nat.zero_le _) dX5_commonDivisor_6 ?_
  refine lv_topi (fun x2 ex2 => ?_)
  have hw := hw x2 ex2
  refine lv_istore_n (lv' := [(3, .int x2), (2, .int x1), (0, .int p0), (1, .int p1)]) hx hb dX5_commonDivisor_9 rfl hl (by decide) rfl (fun ls hl => ?_)
  refine lv_iconst (v := 0) hx hb dX5_commonDivisor_10 (by decide) ?_
  refine lv_istore (lv' := [(4, .int 0), (3, .int x2), (2, .int x1), (0, .int p0), (1, .int p1)]) hx hb dX5_commonDivisor_11 hl (by decide) rfl (fun ls hl => ?_)
  obtain ⟨n13, hw⟩ := hw
  have kl13 : ∀ (K13_40 : Int32 → Int32 → Int32 → Prop) (hk13_40 : ∀ (y2_13 : Int32) (y3_13 : Int32) (y4_13 : Int32) (ls : Array Slot), K13_40 y2_13 y3_13 y4_13 → lv_has ls 6 [(0, .int p0), (1, .int p1), (2, .int y2_13), (3, .int y3_13), (4, .int y4_13)] → W p l e (headSpec (wA yX5_commonDivisor cX5_commonDivisor 6 (some .int)) { frames := 1, cells := 0, slots := 0, locals := 21 }).room s m #[.int p0, .int p1] below meth c s.heap [] 0 0 (MQ below (kSi Q) #[.int p0, .int p1] s 0 0 (fun _ => False)) (F0 m 40 ls [])) (n : Nat) (y2_13 : Int32) (y3_13 : Int32) (y4_13 : Int32) (ls : Array Slot), wp_X5_commonDivisor_L13  K13_40 n y2_13 y3_13 y4_13 → lv_has ls 6 [(0, .int p0), (1, .int p1), (2, .int y2_13), (3, .int y3_13), (4, .int y4_13)] → W p l e (headSpec (wA yX5_commonDivisor cX5_commonDivisor 6 (some .int)) { frames := 1, cells := 0, slots := 0, locals := 21 }).room s m #[.int p0, .int p1] below meth c s.heap [] 0 0 (MQ below (kSi Q) #[.int p0, .int p1] s 0 0 (fun _ => False)) (F0 m 13 ls []) := by
    intro K13_40 hk13_40 n
    induction n with
    | zero =>
      intro y2_13 y3_13 y4_13 ls hw
      exact hw.elim
    | succ n ih13 =>
      intro y2_13 y3_13 y4_13 ls hw hl
      unfold wp_X5_commonDivisor_L13 at hw
      refine lv_iload hx hb dX5_commonDivisor_13 (lv_at hl 4 rfl) ?_
      refine lv_bipush (v := 64) hx hb dX5_commonDivisor_15 (by decide) ?_
      refine lv_icmp_ge (tgt := 40) hx hb dX5_commonDivisor_17 (by decide) (fun c3_13 => ?_) (fun c3_13 => ?_)
      · have hw := hw.1 c3_13
        exact hk13_40 y2_13 y3_13 y4_13 ls hw (lv_sub hl [0, 1, 2, 3, 4] rfl)
      · have hw := hw.2 c3_13
        refine lv_iload_n hx hb dX5_commonDivisor_20 rfl (lv_at hl 3 rfl) ?_
        refine lv_if_eq (tgt := 40) hx hb dX5_commonDivisor_21 (by decide) (fun c2_13 => ?_) (fun c2_13 => ?_)
        · have hw := hw.1 c2_13
          exact hk13_40 y2_13 y3_13 y4_13 ls hw (lv_sub hl [0, 1, 2, 3, 4] rfl)
        · have hw := hw.2 c2_13
          refine lv_iload_n hx hb dX5_commonDivisor_24 rfl (lv_at hl 2 rfl) ?_
          refine lv_iload_n hx hb dX5_commonDivisor_25 rfl (lv_at hl 3 rfl) ?_
          refine lv_irem hx hb dX5_commonDivisor_26 hw.1 ?_
          have hw := hw.2
          refine lv_topi (fun x1_13 ex1_13 => ?_)
          have hw := hw x1_13 ex1_13
          refine lv_istore (lv' := [(5, .int x1_13), (0, .int p0), (1, .int p1), (2, .int y2_13), (3, .int y3_13), (4, .int y4_13)]) hx hb dX5_commonDivisor_27 hl (by decide) rfl (fun ls hl => ?_)
          refine lv_iload_n hx hb dX5_commonDivisor_29 rfl (lv_at hl 4 rfl) ?_
          refine lv_istore_n (lv' := [(2, .int y3_13), (5, .int x1_13), (0, .int p0), (1, .int p1), (3, .int y3_13), (4, .int y4_13)]) hx hb dX5_commonDivisor_30 rfl hl (by decide) rfl (fun ls hl => ?_)
          refine lv_iload hx hb dX5_commonDivisor_31 (lv_at hl 1 rfl) ?_
          refine lv_istore_n (lv' := [(3, .int x1_13), (2, .int y3_13), (5, .int x1_13), (0, .int p0), (1, .int p1), (4, .int y4_13)]) hx hb dX5_commonDivisor_33 rfl hl (by decide) rfl (fun ls hl => ?_)
          refine lv_iinc (v := y4_13 + 1) (lv' := [(4, .int (y4_13 + 1)), (3, .int x1_13), (2, .int y3_13), (5, .int x1_13), (0, .int p0), (1, .int p1)]) hx hb dX5_commonDivisor_34 hl (k := 5) rfl rfl (by decide) rfl (fun ls hl => ?_)
          refine lv_goto (tgt := 13) hx hb dX5_commonDivisor_37 (by decide) ?_
          exact ih13 y3_13 x1_13 (y4_13 + 1) ls hw (lv_sub hl [4, 5, 2, 1, 0] rfl)
  refine kl13 _ ?_ n13 x1 x2 0 ls hw (lv_sub hl [3, 4, 2, 1, 0] rfl)
  · intro y2_13 y3_13 y4_13 ls hw hl
    refine lv_iload_n hx hb dX5_commonDivisor_40 rfl (lv_at hl 2 rfl) ?_
    exact W.iret (v := y2_13) hx hb hr (fun t ht hW => ⟨y2_13, rfl, hw, ht⟩) (fun q h => by cases h) dX5_commonDivisor_41
set_option maxHeartbeats 4000000 in
set_option maxRecDepth 100000 in
theorem k_X5_isGreater (l : Launch) (D : va_G) (cy : Nat → ClassId) (p0 : Int32) (p1 : Int32) (p2 : Int32) (p3 : Int32) (sz : Nat) (Q : Int32 → Prop) (hw : wp_X5_isGreater p0 p1 p2 p3 Q) : Met l yX5_isGreater (wA yX5_isGreater cX5_isGreater 4 (some .boolean)) { frames := 0, cells := 0, slots := 0, locals := 0 } (kPc [.int p0, .int p1, .int p2, .int p3] D cy (List.flatten ([] : List va_W)) sz) (kSi Q) 0 0 (fun _ => False) := by
  refine Met.ofW (cc := cX5_isGreater) (maxL := 4) (ret := (some .boolean)) (by decide) rfl ?_
  intro p e s m args below meth c s₁ B hml hv
  obtain ⟨rfl, hsz, hN, hP, hK, hD0⟩ := hv
  have hx := B.exec
  have hb := B.bytes
  have hr := B.returns
  have hts0 := atoms_spec (ws := wA yX5_isGreater cX5_isGreater 4 (some .boolean)) B.pre
  have hts := fun w (h : w ∈ wsL_law) => hts0 w (List.mem_cons_of_mem _ h)
  have hown : s.vm.findClass RX5 = some m.cls := findClass_of_methodNamed B.named
  have hlocks := B.notSynchronized
  subst hsz
  have hD := hD0
  have hl := lv_entry ([.int p0, .int p1, .int p2, .int p3]) (n := 4) (Nat.le_of_ble_eq_true rfl)
  rw [lg_entry_eq]
  generalize (lg_sl ([.int p0, .int p1, .int p2, .int p3]) ++ List.replicate (4 - (lg_sl ([.int p0, .int p1, .int p2, .int p3])).length) Slot.unset).toArray = ls at hl ⊢
  have hl : lv_has ls 4 [(0, .int p0), (1, .int p1), (2, .int p2), (3, .int p3)] := hl
  unfold wp_X5_isGreater at hw
  refine lv_iload_n hx hb dX5_isGreater_0 rfl (lv_at hl 0 rfl) ?_
  refine lv_i2l hx hb dX5_isGreater_1 rfl ?_
  refine lv_iload_n hx hb dX5_isGreater_2 rfl (lv_at hl 3 rfl) ?_
  refine lv_i2l hx hb dX5_isGreater_3 rfl ?_
  refine lv_lmul hx hb dX5_isGreater_4 ?_
  refine lv_iload_n hx hb dX5_isGreater_5 rfl (lv_at hl 2 rfl) ?_
  refine lv_i2l hx hb dX5_isGreater_6 rfl ?_
  refine lv_iload_n hx hb dX5_isGreater_7 rfl (lv_at hl 1 rfl) ?_
  refine lv_i2l hx hb dX5_isGreater_8 rfl ?_
  refine lv_lmul hx hb dX5_isGreater_9 ?_
  refine W.lcmp hx hb dX5_isGreater_10 ?_
  refine lv_if_le (tgt := 18) hx hb dX5_isGreater_11 (by decide) (fun c1 => ?_) (fun c1 => ?_)
  · have hw := hw.1 c1
    refine lv_iconst (v := 0) hx hb dX5_isGreater_18 (by decide) ?_
    exact W.zret (v := 0) hx hb hr rfl (fun t ht hW => ⟨0, rfl, hw, ht⟩) (fun q h => by cases h) dX5_isGreater_19
  · have hw := hw.2 c1
    refine lv_iconst (v := 1) hx hb dX5_isGreater_14 (by decide) ?_
    refine lv_goto (tgt := 19) hx hb dX5_isGreater_15 (by decide) ?_
    exact W.zret (v := 1) hx hb hr rfl (fun t ht hW => ⟨1, rfl, hw, ht⟩) (fun q h => by cases h) dX5_isGreater_19
set_option maxHeartbeats 4000000 in
set_option maxRecDepth 100000 in
theorem k_X6_within (l : Launch) (D : va_G) (cy : Nat → ClassId) (p0 : Int32) (p1 : Int32) (p2 : Int32) (sz : Nat) (Q : Int32 → Prop) (hw : wp_X6_within p0 p1 p2 Q) : Met l yX6_within (wA yX6_within cX6_within 3 (some .boolean)) { frames := 0, cells := 0, slots := 0, locals := 0 } (kPc [.int p0, .int p1, .int p2] D cy (List.flatten ([] : List va_W)) sz) (kSi Q) 0 0 (fun _ => False) := by
  refine Met.ofW (cc := cX6_within) (maxL := 3) (ret := (some .boolean)) (by decide) rfl ?_
  intro p e s m args below meth c s₁ B hml hv
  obtain ⟨rfl, hsz, hN, hP, hK, hD0⟩ := hv
  have hx := B.exec
  have hb := B.bytes
  have hr := B.returns
  have hts0 := atoms_spec (ws := wA yX6_within cX6_within 3 (some .boolean)) B.pre
  have hts := fun w (h : w ∈ wsL_law) => hts0 w (List.mem_cons_of_mem _ h)
  have hown : s.vm.findClass RX6 = some m.cls := findClass_of_methodNamed B.named
  have hlocks := B.notSynchronized
  subst hsz
  have hD := hD0
  have hl := lv_entry ([.int p0, .int p1, .int p2]) (n := 3) (Nat.le_of_ble_eq_true rfl)
  rw [lg_entry_eq]
  generalize (lg_sl ([.int p0, .int p1, .int p2]) ++ List.replicate (3 - (lg_sl ([.int p0, .int p1, .int p2])).length) Slot.unset).toArray = ls at hl ⊢
  have hl : lv_has ls 3 [(0, .int p0), (1, .int p1), (2, .int p2)] := hl
  unfold wp_X6_within at hw
  refine lv_iload_n hx hb dX6_within_0 rfl (lv_at hl 0 rfl) ?_
  refine lv_iload_n hx hb dX6_within_1 rfl (lv_at hl 1 rfl) ?_
  refine lv_icmp_lt (tgt := 14) hx hb dX6_within_2 (by decide) (fun c2 => ?_) (fun c2 => ?_)
  · have hw := hw.1 c2
    refine lv_iconst (v := 0) hx hb dX6_within_14 (by decide) ?_
    exact W.zret (v := 0) hx hb hr rfl (fun t ht hW => ⟨0, rfl, hw, ht⟩) (fun q h => by cases h) dX6_within_15
  · have hw := hw.2 c2
    refine lv_iload_n hx hb dX6_within_5 rfl (lv_at hl 0 rfl) ?_
    refine lv_iload_n hx hb dX6_within_6 rfl (lv_at hl 2 rfl) ?_
    refine lv_icmp_gt (tgt := 14) hx hb dX6_within_7 (by decide) (fun c1 => ?_) (fun c1 => ?_)
    · have hw := hw.1 c1
      refine lv_iconst (v := 0) hx hb dX6_within_14 (by decide) ?_
      exact W.zret (v := 0) hx hb hr rfl (fun t ht hW => ⟨0, rfl, hw, ht⟩) (fun q h => by cases h) dX6_within_15
    · have hw := hw.2 c1
      refine lv_iconst (v := 1) hx hb dX6_within_10 (by decide) ?_
      refine lv_goto (tgt := 15) hx hb dX6_within_11 (by decide) ?_
      exact W.zret (v := 1) hx hb hr rfl (fun t ht hW => ⟨1, rfl, hw, ht⟩) (fun q h => by cases h) dX6_within_15
set_option maxHeartbeats 4000000 in
set_option maxRecDepth 100000 in
theorem k_X6_greaterSize (l : Launch) (D : va_G) (cy : Nat → ClassId) (p0 : Int32) (p1 : Int32) (sz : Nat) (Q : Int32 → Prop) (hw : wp_X6_greaterSize p0 p1 Q) : Met l yX6_greaterSize (wA yX6_greaterSize cX6_greaterSize 4 (some .int)) { frames := 0, cells := 0, slots := 0, locals := 0 } (kPc [.int p0, .int p1] D cy (List.flatten ([] : List va_W)) sz) (kSi Q) 0 0 (fun _ => False) := by
  refine Met.ofW (cc := cX6_greaterSize) (maxL := 4) (ret := (some .int)) (by decide) rfl ?_
  intro p e s m args below meth c s₁ B hml hv
  obtain ⟨rfl, hsz, hN, hP, hK, hD0⟩ := hv
  have hx := B.exec
  have hb := B.bytes
  have hr := B.returns
  have hts0 := atoms_spec (ws := wA yX6_greaterSize cX6_greaterSize 4 (some .int)) B.pre
  have hts := fun w (h : w ∈ wsL_law) => hts0 w (List.mem_cons_of_mem _ h)
  have hown : s.vm.findClass RX6 = some m.cls := findClass_of_methodNamed B.named
  have hlocks := B.notSynchronized
  subst hsz
  have hD := hD0
  have hl := lv_entry ([.int p0, .int p1]) (n := 4) (Nat.le_of_ble_eq_true rfl)
  rw [lg_entry_eq]
  generalize (lg_sl ([.int p0, .int p1]) ++ List.replicate (4 - (lg_sl ([.int p0, .int p1])).length) Slot.unset).toArray = ls at hl ⊢
  have hl : lv_has ls 4 [(0, .int p0), (1, .int p1)] := hl
  unfold wp_X6_greaterSize at hw
  refine lv_iload_n hx hb dX6_greaterSize_0 rfl (lv_at hl 0 rfl) ?_
  refine lv_if_ge (tgt := 9) hx hb dX6_greaterSize_1 (by decide) (fun c10 => ?_) (fun c10 => ?_)
  · have hw := hw.1 c10
    refine lv_iload_n hx hb dX6_greaterSize_9 rfl (lv_at hl 0 rfl) ?_
    refine lv_istore_n (lv' := [(2, .int p0), (0, .int p0), (1, .int p1)]) hx hb dX6_greaterSize_10 rfl hl (by decide) rfl (fun ls hl => ?_)
    refine lv_iload_n hx hb dX6_greaterSize_11 rfl (lv_at hl 2 rfl) ?_
    refine lv_if_ge (tgt := 20) hx hb dX6_greaterSize_12 (by decide) (fun c4 => ?_) (fun c4 => ?_)
    · have hw := hw.1 c4
      refine lv_iload_n hx hb dX6_greaterSize_20 rfl (lv_at hl 2 rfl) ?_
      refine lv_istore_n (lv' := [(3, .int p1), (2, .int p0), (0, .int p0), (1, .int p1)]) hx hb dX6_greaterSize_21 rfl hl (by decide) rfl (fun ls hl => ?_)
      refine lv_iload_n hx hb dX6_greaterSize_22 rfl (lv_at hl 1 rfl) ?_
      refine lv_iload_n hx hb dX6_greaterSize_23 rfl (lv_at hl 0 rfl) ?_
      refine lv_icmp_le (tgt := 31) hx hb dX6_greaterSize_24 (by decide) (fun c1 => ?_) (fun c1 => ?_)
      · have hw := hw.1 c1
        refine lv_iload_n hx hb dX6_greaterSize_31 rfl (lv_at hl 0 rfl) ?_
        exact W.iret (v := p1) hx hb hr (fun t ht hW => ⟨p1, rfl, hw, ht⟩) (fun q h => by cases h) dX6_greaterSize_32
      · have hw := hw.2 c1
        refine lv_iload_n hx hb dX6_greaterSize_27 rfl (lv_at hl 1 rfl) ?_
        refine lv_goto (tgt := 32) hx hb dX6_greaterSize_28 (by decide) ?_
        exact W.iret (v := p0) hx hb hr (fun t ht hW => ⟨p0, rfl, hw, ht⟩) (fun q h => by cases h) dX6_greaterSize_32
    · have hw := hw.2 c4
      refine lv_iload_n hx hb dX6_greaterSize_15 rfl (lv_at hl 2 rfl) ?_
      refine lv_ineg hx hb dX6_greaterSize_16 ?_
      refine lv_goto (tgt := 21) hx hb dX6_greaterSize_17 (by decide) ?_
      refine lv_topi (fun x2 ex2 => ?_)
      have hw := hw x2 ex2
      refine lv_istore_n (lv' := [(3, .int x2), (2, .int p0), (0, .int p0), (1, .int p1)]) hx hb dX6_greaterSize_21 rfl hl (by decide) rfl (fun ls hl => ?_)
      refine lv_iload_n hx hb dX6_greaterSize_22 rfl (lv_at hl 1 rfl) ?_
      refine lv_iload_n hx hb dX6_greaterSize_23 rfl (lv_at hl 0 rfl) ?_
      refine lv_icmp_le (tgt := 31) hx hb dX6_greaterSize_24 (by decide) (fun c3 => ?_) (fun c3 => ?_)
      · have hw := hw.1 c3
        refine lv_iload_n hx hb dX6_greaterSize_31 rfl (lv_at hl 0 rfl) ?_
        exact W.iret (v := x2) hx hb hr (fun t ht hW => ⟨x2, rfl, hw, ht⟩) (fun q h => by cases h) dX6_greaterSize_32
      · have hw := hw.2 c3
        refine lv_iload_n hx hb dX6_greaterSize_27 rfl (lv_at hl 1 rfl) ?_
        refine lv_goto (tgt := 32) hx hb dX6_greaterSize_28 (by decide) ?_
        exact W.iret (v := p0) hx hb hr (fun t ht hW => ⟨p0, rfl, hw, ht⟩) (fun q h => by cases h) dX6_greaterSize_32
  · have hw := hw.2 c10
    refine lv_iload_n hx hb dX6_greaterSize_4 rfl (lv_at hl 0 rfl) ?_
    refine lv_ineg hx hb dX6_greaterSize_5 ?_
    refine lv_goto (tgt := 10) hx hb dX6_greaterSize_6 (by decide) ?_
    refine lv_topi (fun x5 ex5 => ?_)
    have hw := hw x5 ex5
    refine lv_istore_n (lv' := [(2, .int x5), (0, .int p0), (1, .int p1)]) hx hb dX6_greaterSize_10 rfl hl (by decide) rfl (fun ls hl => ?_)
    refine lv_iload_n hx hb dX6_greaterSize_11 rfl (lv_at hl 2 rfl) ?_
    refine lv_if_ge (tgt := 20) hx hb dX6_greaterSize_12 (by decide) (fun c9 => ?_) (fun c9 => ?_)
    · have hw := hw.1 c9
      refine lv_iload_n hx hb dX6_greaterSize_20 rfl (lv_at hl 2 rfl) ?_
      refine lv_istore_n (lv' := [(3, .int p1), (2, .int x5), (0, .int p0), (1, .int p1)]) hx hb dX6_greaterSize_21 rfl hl (by decide) rfl (fun ls hl => ?_)
      refine lv_iload_n hx hb dX6_greaterSize_22 rfl (lv_at hl 1 rfl) ?_
      refine lv_iload_n hx hb dX6_greaterSize_23 rfl (lv_at hl 0 rfl) ?_
      refine lv_icmp_le (tgt := 31) hx hb dX6_greaterSize_24 (by decide) (fun c6 => ?_) (fun c6 => ?_)
      · have hw := hw.1 c6
        refine lv_iload_n hx hb dX6_greaterSize_31 rfl (lv_at hl 0 rfl) ?_
        exact W.iret (v := p1) hx hb hr (fun t ht hW => ⟨p1, rfl, hw, ht⟩) (fun q h => by cases h) dX6_greaterSize_32
      · have hw := hw.2 c6
        refine lv_iload_n hx hb dX6_greaterSize_27 rfl (lv_at hl 1 rfl) ?_
        refine lv_goto (tgt := 32) hx hb dX6_greaterSize_28 (by decide) ?_
        exact W.iret (v := x5) hx hb hr (fun t ht hW => ⟨x5, rfl, hw, ht⟩) (fun q h => by cases h) dX6_greaterSize_32
    · have hw := hw.2 c9
      refine lv_iload_n hx hb dX6_greaterSize_15 rfl (lv_at hl 2 rfl) ?_
      refine lv_ineg hx hb dX6_greaterSize_16 ?_
      refine lv_goto (tgt := 21) hx hb dX6_greaterSize_17 (by decide) ?_
      refine lv_topi (fun x7 ex7 => ?_)
      have hw := hw x7 ex7
      refine lv_istore_n (lv' := [(3, .int x7), (2, .int x5), (0, .int p0), (1, .int p1)]) hx hb dX6_greaterSize_21 rfl hl (by decide) rfl (fun ls hl => ?_)
      refine lv_iload_n hx hb dX6_greaterSize_22 rfl (lv_at hl 1 rfl) ?_
      refine lv_iload_n hx hb dX6_greaterSize_23 rfl (lv_at hl 0 rfl) ?_
      refine lv_icmp_le (tgt := 31) hx hb dX6_greaterSize_24 (by decide) (fun c8 => ?_) (fun c8 => ?_)
      · have hw := hw.1 c8
        refine lv_iload_n hx hb dX6_greaterSize_31 rfl (lv_at hl 0 rfl) ?_
        exact W.iret (v := x7) hx hb hr (fun t ht hW => ⟨x7, rfl, hw, ht⟩) (fun q h => by cases h) dX6_greaterSize_32
      · have hw := hw.2 c8
        refine lv_iload_n hx hb dX6_greaterSize_27 rfl (lv_at hl 1 rfl) ?_
        refine lv_goto (tgt := 32) hx hb dX6_greaterSize_28 (by decide) ?_
        exact W.iret (v := x5) hx hb hr (fun t ht hW => ⟨x5, rfl, hw, ht⟩) (fun q h => by cases h) dX6_greaterSize_32
set_option maxHeartbeats 4000000 in
set_option maxRecDepth 100000 in
theorem k_X6_common (l : Launch) (D : va_G) (cy : Nat → ClassId) (p0 : Int32) (p1 : Int32) (sz : Nat) (Q : Int32 → Prop) (hw : wp_X6_common p0 p1 Q) : Met l yX6_common (wA yX6_common cX6_common 5 (some .int)) { frames := 0, cells := 0, slots := 0, locals := 0 } (kPc [.int p0, .int p1] D cy (List.flatten ([] : List va_W)) sz) (kSi Q) 0 0 (fun _ => False) := by
  refine Met.ofW (cc := cX6_common) (maxL := 5) (ret := (some .int)) (by decide) rfl ?_
  intro p e s m args below meth c s₁ B hml hv
  obtain ⟨rfl, hsz, hN, hP, hK, hD0⟩ := hv
  have hx := B.exec
  have hb := B.bytes
  have hr := B.returns
  have hts0 := atoms_spec (ws := wA yX6_common cX6_common 5 (some .int)) B.pre
  have hts := fun w (h : w ∈ wsL_law) => hts0 w (List.mem_cons_of_mem _ h)
  have hown : s.vm.findClass RX6 = some m.cls := findClass_of_methodNamed B.named
  have hlocks := B.notSynchronized
  subst hsz
  have hD := hD0
  have hl := lv_entry ([.int p0, .int p1]) (n := 5) (Nat.le_of_ble_eq_true rfl)
  rw [lg_entry_eq]
  generalize (lg_sl ([.int p0, .int p1]) ++ List.replicate (5 - (lg_sl ([.int p0, .int p1])).length) Slot.unset).toArray = ls at hl ⊢
  have hl : lv_has ls 5 [(0, .int p0), (1, .int p1)] := hl
  unfold wp_X6_common at hw
  refine lv_iload_n hx hb dX6_common_0 rfl (lv_at hl 0 rfl) ?_
  refine lv_if_ge (tgt := 9) hx hb dX6_common_1 (by decide) (fun c6 => ?_) (fun c6 => ?_)
  · have hw := hw.1 c6
    refine lv_iload_n hx hb dX6_common_9 rfl (lv_at hl 0 rfl) ?_
    refine lv_istore_n (lv' := [(2, .int p0), (0, .int p0), (1, .int p1)]) hx hb dX6_common_10 rfl hl (by decide) rfl (fun ls hl => ?_)
    refine lv_iload_n hx hb dX6_common_11 rfl (lv_at hl 2 rfl) ?_
    refine lv_if_ge (tgt := 20) hx hb dX6_common_12 (by decide) (fun c2 => ?_) (fun c2 => ?_)
    · have hw := hw.1 c2
      refine lv_iload_n hx hb dX6_common_20 rfl (lv_at hl 2 rfl) ?_
      refine lv_istore_n (lv' := [(3, .int p1), (2, .int p0), (0, .int p0), (1, .int p1)]) hx hb dX6_common_21 rfl hl (by decide) rfl (fun ls hl => ?_)
      obtain ⟨n22, hw⟩ := hw
      have kl22 : ∀ (K22_39 : Int32 → Int32 → Prop) (hk22_39 : ∀ (y2_22 : Int32) (y3_22 : Int32) (ls : Array Slot), K22_39 y2_22 y3_22 → lv_has ls 5 [(0, .int p0), (1, .int p1), (2, .int y2_22), (3, .int y3_22)] → W p l e (headSpec (wA yX6_common cX6_common 5 (some .int)) { frames := 0, cells := 0, slots := 0, locals := 0 }).room s m #[.int p0, .int p1] below meth c s.heap [] 0 0 (MQ below (kSi Q) #[.int p0, .int p1] s 0 0 (fun _ => False)) (F0 m 39 ls [])) (n : Nat) (y2_22 : Int32) (y3_22 : Int32) (ls : Array Slot), wp_X6_common_L22  K22_39 n y2_22 y3_22 → lv_has ls 5 [(0, .int p0), (1, .int p1), (2, .int y2_22), (3, .int y3_22)] → W p l e (headSpec (wA yX6_common cX6_common 5 (some .int)) { frames := 0, cells := 0, slots := 0, locals := 0 }).room s m #[.int p0, .int p1] below meth c s.heap [] 0 0 (MQ below (kSi Q) #[.int p0, .int p1] s 0 0 (fun _ => False)) (F0 m 22 ls []) := by
        intro K22_39 hk22_39 n
        induction n with
        | zero =>
          intro y2_22 y3_22 ls hw
          exact hw.elim
        | succ n ih22 =>
          intro y2_22 y3_22 ls hw hl
          unfold wp_X6_common_L22 at hw
          refine lv_iload_n hx hb dX6_common_22 rfl (lv_at hl 3 rfl) ?_
          refine lv_if_eq (tgt := 39) hx hb dX6_common_23 (by decide) (fun c2_22 => ?_) (fun c2_22 => ?_)
          · have hw := hw.1 c2_22
            exact hk22_39 y2_22 y3_22 ls hw (lv_sub hl [0, 1, 2, 3] rfl)
          · have hw := hw.2 c2_22
            refine lv_iload_n hx hb dX6_common_26 rfl (lv_at hl 2 rfl) ?_
            refine lv_iload_n hx hb dX6_common_27 rfl (lv_at hl 3 rfl) ?_
            refine lv_irem hx hb dX6_common_28 hw.1 ?_
            have hw := hw.2
            refine lv_topi (fun x1_22 ex1_22 => ?_)
            have hw := hw x1_22 ex1_22
            refine lv_istore (lv' := [(4, .int x1_22), (0, .int p0), (1, .int p1), (2, .int y2_22), (3, .int y3_22)]) hx hb dX6_common_29 hl (by decide) rfl (fun ls hl => ?_)
            refine lv_iload_n hx hb dX6_common_31 rfl (lv_at hl 4 rfl) ?_
            refine lv_istore_n (lv' := [(2, .int y3_22), (4, .int x1_22), (0, .int p0), (1, .int p1), (3, .int y3_22)]) hx hb dX6_common_32 rfl hl (by decide) rfl (fun ls hl => ?_)
            refine lv_iload hx hb dX6_common_33 (lv_at hl 1 rfl) ?_
            refine lv_istore_n (lv' := [(3, .int x1_22), (2, .int y3_22), (4, .int x1_22), (0, .int p0), (1, .int p1)]) hx hb dX6_common_35 rfl hl (by decide) rfl (fun ls hl => ?_)
            refine lv_goto (tgt := 22) hx hb dX6_common_36 (by decide) ?_
            exact ih22 y3_22 x1_22 ls hw (lv_sub hl [3, 4, 1, 0] rfl)
      refine kl22 _ ?_ n22 p0 p1 ls hw (lv_sub hl [2, 3, 1, 0] rfl)
      · intro y2_22 y3_22 ls hw hl
        refine lv_iload_n hx hb dX6_common_39 rfl (lv_at hl 2 rfl) ?_
        exact W.iret (v := y2_22) hx hb hr (fun t ht hW => ⟨y2_22, rfl, hw, ht⟩) (fun q h => by cases h) dX6_common_40
    · have hw := hw.2 c2
      refine lv_iload_n hx hb dX6_common_15 rfl (lv_at hl 2 rfl) ?_
      refine lv_ineg hx hb dX6_common_16 ?_
      refine lv_goto (tgt := 21) hx hb dX6_common_17 (by decide) ?_
      refine lv_topi (fun x1 ex1 => ?_)
      have hw := hw x1 ex1
      refine lv_istore_n (lv' := [(3, .int x1), (2, .int p0), (0, .int p0), (1, .int p1)]) hx hb dX6_common_21 rfl hl (by decide) rfl (fun ls hl => ?_)
      obtain ⟨n22, hw⟩ := hw
      have kl22 : ∀ (K22_39 : Int32 → Int32 → Prop) (hk22_39 : ∀ (y2_22 : Int32) (y3_22 : Int32) (ls : Array Slot), K22_39 y2_22 y3_22 → lv_has ls 5 [(0, .int p0), (1, .int p1), (2, .int y2_22), (3, .int y3_22)] → W p l e (headSpec (wA yX6_common cX6_common 5 (some .int)) { frames := 0, cells := 0, slots := 0, locals := 0 }).room s m #[.int p0, .int p1] below meth c s.heap [] 0 0 (MQ below (kSi Q) #[.int p0, .int p1] s 0 0 (fun _ => False)) (F0 m 39 ls [])) (n : Nat) (y2_22 : Int32) (y3_22 : Int32) (ls : Array Slot), wp_X6_common_L22  K22_39 n y2_22 y3_22 → lv_has ls 5 [(0, .int p0), (1, .int p1), (2, .int y2_22), (3, .int y3_22)] → W p l e (headSpec (wA yX6_common cX6_common 5 (some .int)) { frames := 0, cells := 0, slots := 0, locals := 0 }).room s m #[.int p0, .int p1] below meth c s.heap [] 0 0 (MQ below (kSi Q) #[.int p0, .int p1] s 0 0 (fun _ => False)) (F0 m 22 ls []) := by
        intro K22_39 hk22_39 n
        induction n with
        | zero =>
          intro y2_22 y3_22 ls hw
          exact hw.elim
        | succ n ih22 =>
          intro y2_22 y3_22 ls hw hl
          unfold wp_X6_common_L22 at hw
          refine lv_iload_n hx hb dX6_common_22 rfl (lv_at hl 3 rfl) ?_
          refine lv_if_eq (tgt := 39) hx hb dX6_common_23 (by decide) (fun c2_22 => ?_) (fun c2_22 => ?_)
          · have hw := hw.1 c2_22
            exact hk22_39 y2_22 y3_22 ls hw (lv_sub hl [0, 1, 2, 3] rfl)
          · have hw := hw.2 c2_22
            refine lv_iload_n hx hb dX6_common_26 rfl (lv_at hl 2 rfl) ?_
            refine lv_iload_n hx hb dX6_common_27 rfl (lv_at hl 3 rfl) ?_
            refine lv_irem hx hb dX6_common_28 hw.1 ?_
            have hw := hw.2
            refine lv_topi (fun x1_22 ex1_22 => ?_)
            have hw := hw x1_22 ex1_22
            refine lv_istore (lv' := [(4, .int x1_22), (0, .int p0), (1, .int p1), (2, .int y2_22), (3, .int y3_22)]) hx hb dX6_common_29 hl (by decide) rfl (fun ls hl => ?_)
            refine lv_iload_n hx hb dX6_common_31 rfl (lv_at hl 4 rfl) ?_
            refine lv_istore_n (lv' := [(2, .int y3_22), (4, .int x1_22), (0, .int p0), (1, .int p1), (3, .int y3_22)]) hx hb dX6_common_32 rfl hl (by decide) rfl (fun ls hl => ?_)
            refine lv_iload hx hb dX6_common_33 (lv_at hl 1 rfl) ?_
            refine lv_istore_n (lv' := [(3, .int x1_22), (2, .int y3_22), (4, .int x1_22), (0, .int p0), (1, .int p1)]) hx hb dX6_common_35 rfl hl (by decide) rfl (fun ls hl => ?_)
            refine lv_goto (tgt := 22) hx hb dX6_common_36 (by decide) ?_
            exact ih22 y3_22 x1_22 ls hw (lv_sub hl [3, 4, 1, 0] rfl)
      refine kl22 _ ?_ n22 p0 x1 ls hw (lv_sub hl [2, 3, 1, 0] rfl)
      · intro y2_22 y3_22 ls hw hl
        refine lv_iload_n hx hb dX6_common_39 rfl (lv_at hl 2 rfl) ?_
        exact W.iret (v := y2_22) hx hb hr (fun t ht hW => ⟨y2_22, rfl, hw, ht⟩) (fun q h => by cases h) dX6_common_40
  · have hw := hw.2 c6
    refine lv_iload_n hx hb dX6_common_4 rfl (lv_at hl 0 rfl) ?_
    refine lv_ineg hx hb dX6_common_5 ?_
    refine lv_goto (tgt := 10) hx hb dX6_common_6 (by decide) ?_
    refine lv_topi (fun x3 ex3 => ?_)
    have hw := hw x3 ex3
    refine lv_istore_n (lv' := [(2, .int x3), (0, .int p0), (1, .int p1)]) hx hb dX6_common_10 rfl hl (by decide) rfl (fun ls hl => ?_)
    refine lv_iload_n hx hb dX6_common_11 rfl (lv_at hl 2 rfl) ?_
    refine lv_if_ge (tgt := 20) hx hb dX6_common_12 (by decide) (fun c5 => ?_) (fun c5 => ?_)
    · have hw := hw.1 c5
      refine lv_iload_n hx hb dX6_common_20 rfl (lv_at hl 2 rfl) ?_
      refine lv_istore_n (lv' := [(3, .int p1), (2, .int x3), (0, .int p0), (1, .int p1)]) hx hb dX6_common_21 rfl hl (by decide) rfl (fun ls hl => ?_)
      obtain ⟨n22, hw⟩ := hw
      have kl22 : ∀ (K22_39 : Int32 → Int32 → Prop) (hk22_39 : ∀ (y2_22 : Int32) (y3_22 : Int32) (ls : Array Slot), K22_39 y2_22 y3_22 → lv_has ls 5 [(0, .int p0), (1, .int p1), (2, .int y2_22), (3, .int y3_22)] → W p l e (headSpec (wA yX6_common cX6_common 5 (some .int)) { frames := 0, cells := 0, slots := 0, locals := 0 }).room s m #[.int p0, .int p1] below meth c s.heap [] 0 0 (MQ below (kSi Q) #[.int p0, .int p1] s 0 0 (fun _ => False)) (F0 m 39 ls [])) (n : Nat) (y2_22 : Int32) (y3_22 : Int32) (ls : Array Slot), wp_X6_common_L22  K22_39 n y2_22 y3_22 → lv_has ls 5 [(0, .int p0), (1, .int p1), (2, .int y2_22), (3, .int y3_22)] → W p l e (headSpec (wA yX6_common cX6_common 5 (some .int)) { frames := 0, cells := 0, slots := 0, locals := 0 }).room s m #[.int p0, .int p1] below meth c s.heap [] 0 0 (MQ below (kSi Q) #[.int p0, .int p1] s 0 0 (fun _ => False)) (F0 m 22 ls []) := by
        intro K22_39 hk22_39 n
        induction n with
        | zero =>
          intro y2_22 y3_22 ls hw
          exact hw.elim
        | succ n ih22 =>
          intro y2_22 y3_22 ls hw hl
          unfold wp_X6_common_L22 at hw
          refine lv_iload_n hx hb dX6_common_22 rfl (lv_at hl 3 rfl) ?_
          refine lv_if_eq (tgt := 39) hx hb dX6_common_23 (by decide) (fun c2_22 => ?_) (fun c2_22 => ?_)
          · have hw := hw.1 c2_22
            exact hk22_39 y2_22 y3_22 ls hw (lv_sub hl [0, 1, 2, 3] rfl)
          · have hw := hw.2 c2_22
            refine lv_iload_n hx hb dX6_common_26 rfl (lv_at hl 2 rfl) ?_
            refine lv_iload_n hx hb dX6_common_27 rfl (lv_at hl 3 rfl) ?_
            refine lv_irem hx hb dX6_common_28 hw.1 ?_
            have hw := hw.2
            refine lv_topi (fun x1_22 ex1_22 => ?_)
            have hw := hw x1_22 ex1_22
            refine lv_istore (lv' := [(4, .int x1_22), (0, .int p0), (1, .int p1), (2, .int y2_22), (3, .int y3_22)]) hx hb dX6_common_29 hl (by decide) rfl (fun ls hl => ?_)
            refine lv_iload_n hx hb dX6_common_31 rfl (lv_at hl 4 rfl) ?_
            refine lv_istore_n (lv' := [(2, .int y3_22), (4, .int x1_22), (0, .int p0), (1, .int p1), (3, .int y3_22)]) hx hb dX6_common_32 rfl hl (by decide) rfl (fun ls hl => ?_)
            refine lv_iload hx hb dX6_common_33 (lv_at hl 1 rfl) ?_
            refine lv_istore_n (lv' := [(3, .int x1_22), (2, .int y3_22), (4, .int x1_22), (0, .int p0), (1, .int p1)]) hx hb dX6_common_35 rfl hl (by decide) rfl (fun ls hl => ?_)
            refine lv_goto (tgt := 22) hx hb dX6_common_36 (by decide) ?_
            exact ih22 y3_22 x1_22 ls hw (lv_sub hl [3, 4, 1, 0] rfl)
      refine kl22 _ ?_ n22 x3 p1 ls hw (lv_sub hl [2, 3, 1, 0] rfl)
      · intro y2_22 y3_22 ls hw hl
        refine lv_iload_n hx hb dX6_common_39 rfl (lv_at hl 2 rfl) ?_
        exact W.iret (v := y2_22) hx hb hr (fun t ht hW => ⟨y2_22, rfl, hw, ht⟩) (fun q h => by cases h) dX6_common_40
    · have hw := hw.2 c5
      refine lv_iload_n hx hb dX6_common_15 rfl (lv_at hl 2 rfl) ?_
      refine lv_ineg hx hb dX6_common_16 ?_
      refine lv_goto (tgt := 21) hx hb dX6_common_17 (by decide) ?_
      refine lv_topi (fun x4 ex4 => ?_)
      have hw := hw x4 ex4
      refine lv_istore_n (lv' := [(3, .int x4), (2, .int x3), (0, .int p0), (1, .int p1)]) hx hb dX6_common_21 rfl hl (by decide) rfl (fun ls hl => ?_)
      obtain ⟨n22, hw⟩ := hw
      have kl22 : ∀ (K22_39 : Int32 → Int32 → Prop) (hk22_39 : ∀ (y2_22 : Int32) (y3_22 : Int32) (ls : Array Slot), K22_39 y2_22 y3_22 → lv_has ls 5 [(0, .int p0), (1, .int p1), (2, .int y2_22), (3, .int y3_22)] → W p l e (headSpec (wA yX6_common cX6_common 5 (some .int)) { frames := 0, cells := 0, slots := 0, locals := 0 }).room s m #[.int p0, .int p1] below meth c s.heap [] 0 0 (MQ below (kSi Q) #[.int p0, .int p1] s 0 0 (fun _ => False)) (F0 m 39 ls [])) (n : Nat) (y2_22 : Int32) (y3_22 : Int32) (ls : Array Slot), wp_X6_common_L22  K22_39 n y2_22 y3_22 → lv_has ls 5 [(0, .int p0), (1, .int p1), (2, .int y2_22), (3, .int y3_22)] → W p l e (headSpec (wA yX6_common cX6_common 5 (some .int)) { frames := 0, cells := 0, slots := 0, locals := 0 }).room s m #[.int p0, .int p1] below meth c s.heap [] 0 0 (MQ below (kSi Q) #[.int p0, .int p1] s 0 0 (fun _ => False)) (F0 m 22 ls []) := by
        intro K22_39 hk22_39 n
        induction n with
        | zero =>
          intro y2_22 y3_22 ls hw
          exact hw.elim
        | succ n ih22 =>
          intro y2_22 y3_22 ls hw hl
          unfold wp_X6_common_L22 at hw
          refine lv_iload_n hx hb dX6_common_22 rfl (lv_at hl 3 rfl) ?_
          refine lv_if_eq (tgt := 39) hx hb dX6_common_23 (by decide) (fun c2_22 => ?_) (fun c2_22 => ?_)
          · have hw := hw.1 c2_22
            exact hk22_39 y2_22 y3_22 ls hw (lv_sub hl [0, 1, 2, 3] rfl)
          · have hw := hw.2 c2_22
            refine lv_iload_n hx hb dX6_common_26 rfl (lv_at hl 2 rfl) ?_
            refine lv_iload_n hx hb dX6_common_27 rfl (lv_at hl 3 rfl) ?_
            refine lv_irem hx hb dX6_common_28 hw.1 ?_
            have hw := hw.2
            refine lv_topi (fun x1_22 ex1_22 => ?_)
            have hw := hw x1_22 ex1_22
            refine lv_istore (lv' := [(4, .int x1_22), (0, .int p0), (1, .int p1), (2, .int y2_22), (3, .int y3_22)]) hx hb dX6_common_29 hl (by decide) rfl (fun ls hl => ?_)
            refine lv_iload_n hx hb dX6_common_31 rfl (lv_at hl 4 rfl) ?_
            refine lv_istore_n (lv' := [(2, .int y3_22), (4, .int x1_22), (0, .int p0), (1, .int p1), (3, .int y3_22)]) hx hb dX6_common_32 rfl hl (by decide) rfl (fun ls hl => ?_)
            refine lv_iload hx hb dX6_common_33 (lv_at hl 1 rfl) ?_
            refine lv_istore_n (lv' := [(3, .int x1_22), (2, .int y3_22), (4, .int x1_22), (0, .int p0), (1, .int p1)]) hx hb dX6_common_35 rfl hl (by decide) rfl (fun ls hl => ?_)
            refine lv_goto (tgt := 22) hx hb dX6_common_36 (by decide) ?_
            exact ih22 y3_22 x1_22 ls hw (lv_sub hl [3, 4, 1, 0] rfl)
      refine kl22 _ ?_ n22 x3 x4 ls hw (lv_sub hl [2, 3, 1, 0] rfl)
      · intro y2_22 y3_22 ls hw hl
        refine lv_iload_n hx hb dX6_common_39 rfl (lv_at hl 2 rfl) ?_
        exact W.iret (v := y2_22) hx hb hr (fun t ht hW => ⟨y2_22, rfl, hw, ht⟩) (fun q h => by cases h) dX6_common_40
set_option maxHeartbeats 4000000 in
set_option maxRecDepth 100000 in
theorem k_X6_signOf (l : Launch) (D : va_G) (cy : Nat → ClassId) (p0 : Int32) (sz : Nat) (Q : Int32 → Prop) (hw : wp_X6_signOf p0 Q) : Met l yX6_signOf (wA yX6_signOf cX6_signOf 1 (some .int)) { frames := 0, cells := 0, slots := 0, locals := 0 } (kPc [.int p0] D cy (List.flatten ([] : List va_W)) sz) (kSi Q) 0 0 (fun _ => False) := by
  refine Met.ofW (cc := cX6_signOf) (maxL := 1) (ret := (some .int)) (by decide) rfl ?_
  intro p e s m args below meth c s₁ B hml hv
  obtain ⟨rfl, hsz, hN, hP, hK, hD0⟩ := hv
  have hx := B.exec
  have hb := B.bytes
  have hr := B.returns
  have hts0 := atoms_spec (ws := wA yX6_signOf cX6_signOf 1 (some .int)) B.pre
  have hts := fun w (h : w ∈ wsL_law) => hts0 w (List.mem_cons_of_mem _ h)
  have hown : s.vm.findClass RX6 = some m.cls := findClass_of_methodNamed B.named
  have hlocks := B.notSynchronized
  subst hsz
  have hD := hD0
  have hl := lv_entry ([.int p0]) (n := 1) (Nat.le_of_ble_eq_true rfl)
  rw [lg_entry_eq]
  generalize (lg_sl ([.int p0]) ++ List.replicate (1 - (lg_sl ([.int p0])).length) Slot.unset).toArray = ls at hl ⊢
  have hl : lv_has ls 1 [(0, .int p0)] := hl
  unfold wp_X6_signOf at hw
  refine lv_iload_n hx hb dX6_signOf_0 rfl (lv_at hl 0 rfl) ?_
  refine lv_if_le (tgt := 8) hx hb dX6_signOf_1 (by decide) (fun c2 => ?_) (fun c2 => ?_)
  · have hw := hw.1 c2
    refine lv_iload_n hx hb dX6_signOf_8 rfl (lv_at hl 0 rfl) ?_
    refine lv_if_ge (tgt := 16) hx hb dX6_signOf_9 (by decide) (fun c1 => ?_) (fun c1 => ?_)
    · have hw := hw.1 c1
      refine lv_iconst (v := 0) hx hb dX6_signOf_16 (by decide) ?_
      exact W.iret (v := 0) hx hb hr (fun t ht hW => ⟨0, rfl, hw, ht⟩) (fun q h => by cases h) dX6_signOf_17
    · have hw := hw.2 c1
      refine lv_iconst (v := (-1)) hx hb dX6_signOf_12 (by decide) ?_
      refine lv_goto (tgt := 17) hx hb dX6_signOf_13 (by decide) ?_
      exact W.iret (v := (-1)) hx hb hr (fun t ht hW => ⟨(-1), rfl, hw, ht⟩) (fun q h => by cases h) dX6_signOf_17
  · have hw := hw.2 c2
    refine lv_iconst (v := 1) hx hb dX6_signOf_4 (by decide) ?_
    refine lv_goto (tgt := 17) hx hb dX6_signOf_5 (by decide) ?_
    exact W.iret (v := 1) hx hb hr (fun t ht hW => ⟨1, rfl, hw, ht⟩) (fun q h => by cases h) dX6_signOf_17
set_option maxHeartbeats 4000000 in
set_option maxRecDepth 100000 in
theorem k_X6_stations (l : Launch) (D : va_G) (cy : Nat → ClassId) (hMo hMo_isThere hMo_stationX hMo_stationY hMo_stationZ hMo_told hMo_weight hMo_poleX hMo_poleY hMo_poleZ hMo_lesser hMo_greater hMo_misfit hMo_nodal hMo_order hMo_placeOf hMo_unlikeX hMo_unlikeY hMo_unlikeZ hMo_farUp hMo_farDown hMo_axisOf : Nat) (Mo_isThere : Nat → Int32) (Mo_stationX : Nat → Int32) (Mo_stationY : Nat → Int32) (Mo_stationZ : Nat → Int32) (Mo_told : Nat → Int32) (Mo_weight : Nat → Int32) (Mo_size : Int32) (Mo_extra : Int32) (Mo_poles : Int32) (Mo_poleX : Nat → Int32) (Mo_poleY : Nat → Int32) (Mo_poleZ : Nat → Int32) (Mo_pairs : Int32) (Mo_lesser : Nat → Int32) (Mo_greater : Nat → Int32) (Mo_isKnown : Int32) (Mo_least : Int32) (Mo_kept : Int32) (Mo_misfit : Nat → Int32) (Mo_nodal : Nat → Int32) (Mo_order : Nat → Int32) (Mo_placeOf : Nat → Int32) (Mo_axisX : Int32) (Mo_axisY : Int32) (Mo_axisZ : Int32) (Mo_axes : Int32) (Mo_unlikeX : Nat → Int32) (Mo_unlikeY : Nat → Int32) (Mo_unlikeZ : Nat → Int32) (Mo_farUp : Nat → Int64) (Mo_farDown : Nat → Int64) (Mo_axisOf : Nat → Int32) (sz : Nat) (Q : Int32 → Prop) (hw : wp_X6_stations Mo_isThere Q) : Met l yX6_stations (wA yX6_stations cX6_stations 3 (some .int)) { frames := 0, cells := 0, slots := 0, locals := 0 } (kPc [.ref hMo] D cy (List.flatten [wMo cy hMo hMo_isThere hMo_stationX hMo_stationY hMo_stationZ hMo_told hMo_weight hMo_poleX hMo_poleY hMo_poleZ hMo_lesser hMo_greater hMo_misfit hMo_nodal hMo_order hMo_placeOf hMo_unlikeX hMo_unlikeY hMo_unlikeZ hMo_farUp hMo_farDown hMo_axisOf Mo_isThere Mo_stationX Mo_stationY Mo_stationZ Mo_told Mo_weight Mo_size Mo_extra Mo_poles Mo_poleX Mo_poleY Mo_poleZ Mo_pairs Mo_lesser Mo_greater Mo_isKnown Mo_least Mo_kept Mo_misfit Mo_nodal Mo_order Mo_placeOf Mo_axisX Mo_axisY Mo_axisZ Mo_axes Mo_unlikeX Mo_unlikeY Mo_unlikeZ Mo_farUp Mo_farDown Mo_axisOf]) sz) (kSi Q) 0 0 (fun _ => False) := by
  refine Met.ofW (cc := cX6_stations) (maxL := 3) (ret := (some .int)) (by decide) rfl ?_
  intro p e s m args below meth c s₁ B hml hv
  obtain ⟨rfl, hsz, hN, hP, hK, hD0⟩ := hv
  have hx := B.exec
  have hb := B.bytes
  have hr := B.returns
  have hts0 := atoms_spec (ws := wA yX6_stations cX6_stations 3 (some .int)) B.pre
  have hts := fun w (h : w ∈ wsL_law) => hts0 w (List.mem_cons_of_mem _ h)
  have hown : s.vm.findClass RX6 = some m.cls := findClass_of_methodNamed B.named
  have hlocks := B.notSynchronized
  subst hsz
  have hD := hD0
  have hl := lv_entry ([.ref hMo]) (n := 3) (Nat.le_of_ble_eq_true rfl)
  rw [lg_entry_eq]
  generalize (lg_sl ([.ref hMo]) ++ List.replicate (3 - (lg_sl ([.ref hMo])).length) Slot.unset).toArray = ls at hl ⊢
  have hl : lv_has ls 3 [(0, .ref hMo)] := hl
  unfold wp_X6_stations at hw
  refine lv_iconst (v := 0) hx hb dX6_stations_0 (by decide) ?_
  refine lv_istore_n (lv' := [(1, .int 0), (0, .ref hMo)]) hx hb dX6_stations_1 rfl hl (by decide) rfl (fun ls hl => ?_)
  refine lv_iconst (v := 0) hx hb dX6_stations_2 (by decide) ?_
  refine lv_istore_n (lv' := [(2, .int 0), (1, .int 0), (0, .ref hMo)]) hx hb dX6_stations_3 rfl hl (by decide) rfl (fun ls hl => ?_)
  obtain ⟨n4, hw⟩ := hw
  have kl4 : ∀ (K4_33 : Int32 → Int32 → Prop) (hk4_33 : ∀ (y1_4 : Int32) (y2_4 : Int32) (ls : Array Slot), K4_33 y1_4 y2_4 → lv_has ls 3 [(0, .ref hMo), (1, .int y1_4), (2, .int y2_4)] → W p l e (headSpec (wA yX6_stations cX6_stations 3 (some .int)) { frames := 0, cells := 0, slots := 0, locals := 0 }).room s m #[.ref hMo] below meth c s.heap [] 0 0 (MQ below (kSi Q) #[.ref hMo] s 0 0 (fun _ => False)) (F0 m 33 ls [])) (n : Nat) (y1_4 : Int32) (y2_4 : Int32) (ls : Array Slot), wp_X6_stations_L4 Mo_isThere K4_33 n y1_4 y2_4 → lv_has ls 3 [(0, .ref hMo), (1, .int y1_4), (2, .int y2_4)] → W p l e (headSpec (wA yX6_stations cX6_stations 3 (some .int)) { frames := 0, cells := 0, slots := 0, locals := 0 }).room s m #[.ref hMo] below meth c s.heap [] 0 0 (MQ below (kSi Q) #[.ref hMo] s 0 0 (fun _ => False)) (F0 m 4 ls []) := by
    intro K4_33 hk4_33 n
    induction n with
    | zero =>
      intro y1_4 y2_4 ls hw
      exact hw.elim
    | succ n ih4 =>
      intro y1_4 y2_4 ls hw hl
      unfold wp_X6_stations_L4 at hw
      refine lv_iload_n hx hb dX6_stations_4 rfl (lv_at hl 2 rfl) ?_
      refine lv_bipush (v := 24) hx hb dX6_stations_5 (by decide) ?_
      refine lv_icmp_ge (tgt := 33) hx hb dX6_stations_7 (by decide) (fun c4_4 => ?_) (fun c4_4 => ?_)
      · have hw := hw.1 c4_4
        exact hk4_33 y1_4 y2_4 ls hw (lv_sub hl [0, 1, 2] rfl)
      · have hw := hw.2 c4_4
        refine lv_iload_n hx hb dX6_stations_10 rfl (lv_at hl 1 rfl) ?_
        refine lv_aload_n hx hb dX6_stations_11 rfl (lv_at hl 0 rfl) ?_
        refine va_get (D := D) (ci := 6) (v := .ref hMo_isThere) (C := RX6) (T := TX6) (N := 32) hx hb hts inlX6 hown hK hP 0 rfl rfl 0 (by decide) (hts (.fieldLink RX6 7 "SquarePlanesModel" "isThere" "[Z") mw_7_8) (fun _ h9 => h9) rfl dX6_stations_12 ?_
        refine lv_iload_n hx hb dX6_stations_15 rfl (lv_at hl 2 rfl) ?_
        refine va_zald hx hb hK hP 1 1 rfl rfl hw.1 dX6_stations_16 ?_
        have hw := hw.2
        refine lv_if_eq (tgt := 24) hx hb dX6_stations_17 (by decide) (fun c3_4 => ?_) (fun c3_4 => ?_)
        · have hw := hw.1 c3_4
          refine lv_iconst (v := 0) hx hb dX6_stations_24 (by decide) ?_
          refine lv_iadd hx hb dX6_stations_25 ?_
          refine lv_topi (fun x1_4 ex1_4 => ?_)
          have hw := hw x1_4 ex1_4
          refine lv_istore_n (lv' := [(1, .int x1_4), (0, .ref hMo), (2, .int y2_4)]) hx hb dX6_stations_26 rfl hl (by decide) rfl (fun ls hl => ?_)
          refine lv_iinc (v := y2_4 + 1) (lv' := [(2, .int (y2_4 + 1)), (1, .int x1_4), (0, .ref hMo)]) hx hb dX6_stations_27 hl (k := 2) rfl rfl (by decide) rfl (fun ls hl => ?_)
          refine lv_goto (tgt := 4) hx hb dX6_stations_30 (by decide) ?_
          exact ih4 x1_4 (y2_4 + 1) ls hw (lv_sub hl [2, 1, 0] rfl)
        · have hw := hw.2 c3_4
          refine lv_iconst (v := 1) hx hb dX6_stations_20 (by decide) ?_
          refine lv_goto (tgt := 25) hx hb dX6_stations_21 (by decide) ?_
          refine lv_iadd hx hb dX6_stations_25 ?_
          refine lv_topi (fun x2_4 ex2_4 => ?_)
          have hw := hw x2_4 ex2_4
          refine lv_istore_n (lv' := [(1, .int x2_4), (0, .ref hMo), (2, .int y2_4)]) hx hb dX6_stations_26 rfl hl (by decide) rfl (fun ls hl => ?_)
          refine lv_iinc (v := y2_4 + 1) (lv' := [(2, .int (y2_4 + 1)), (1, .int x2_4), (0, .ref hMo)]) hx hb dX6_stations_27 hl (k := 2) rfl rfl (by decide) rfl (fun ls hl => ?_)
          refine lv_goto (tgt := 4) hx hb dX6_stations_30 (by decide) ?_
          exact ih4 x2_4 (y2_4 + 1) ls hw (lv_sub hl [2, 1, 0] rfl)
  refine kl4 _ ?_ n4 0 0 ls hw (lv_sub hl [2, 1, 0] rfl)
  · intro y1_4 y2_4 ls hw hl
    refine lv_iload_n hx hb dX6_stations_33 rfl (lv_at hl 1 rfl) ?_
    exact W.iret (v := y1_4) hx hb hr (fun t ht hW => ⟨y1_4, rfl, hw, ht⟩) (fun q h => by cases h) dX6_stations_34
set_option maxHeartbeats 4000000 in
set_option maxRecDepth 100000 in
theorem k_X6_turns (l : Launch) (D : va_G) (cy : Nat → ClassId) (hMo hMo_isThere hMo_stationX hMo_stationY hMo_stationZ hMo_told hMo_weight hMo_poleX hMo_poleY hMo_poleZ hMo_lesser hMo_greater hMo_misfit hMo_nodal hMo_order hMo_placeOf hMo_unlikeX hMo_unlikeY hMo_unlikeZ hMo_farUp hMo_farDown hMo_axisOf : Nat) (Mo_isThere : Nat → Int32) (Mo_stationX : Nat → Int32) (Mo_stationY : Nat → Int32) (Mo_stationZ : Nat → Int32) (Mo_told : Nat → Int32) (Mo_weight : Nat → Int32) (Mo_size : Int32) (Mo_extra : Int32) (Mo_poles : Int32) (Mo_poleX : Nat → Int32) (Mo_poleY : Nat → Int32) (Mo_poleZ : Nat → Int32) (Mo_pairs : Int32) (Mo_lesser : Nat → Int32) (Mo_greater : Nat → Int32) (Mo_isKnown : Int32) (Mo_least : Int32) (Mo_kept : Int32) (Mo_misfit : Nat → Int32) (Mo_nodal : Nat → Int32) (Mo_order : Nat → Int32) (Mo_placeOf : Nat → Int32) (Mo_axisX : Int32) (Mo_axisY : Int32) (Mo_axisZ : Int32) (Mo_axes : Int32) (Mo_unlikeX : Nat → Int32) (Mo_unlikeY : Nat → Int32) (Mo_unlikeZ : Nat → Int32) (Mo_farUp : Nat → Int64) (Mo_farDown : Nat → Int64) (Mo_axisOf : Nat → Int32) (p0 : Int32) (p1 : Int32) (sz : Nat) (Q : Int32 → (Nat → Int32) → (Nat → Int32) → (Nat → Int32) → Prop) (hw : wp_X6_turns p0 p1 Mo_stationX Mo_stationY Mo_stationZ Q) : Met l yX6_turns (wA yX6_turns cX6_turns 6 (some .boolean)) { frames := 0, cells := 0, slots := 0, locals := 0 } (kPc [.ref hMo, .int p0, .int p1] D cy (List.flatten [wMo cy hMo hMo_isThere hMo_stationX hMo_stationY hMo_stationZ hMo_told hMo_weight hMo_poleX hMo_poleY hMo_poleZ hMo_lesser hMo_greater hMo_misfit hMo_nodal hMo_order hMo_placeOf hMo_unlikeX hMo_unlikeY hMo_unlikeZ hMo_farUp hMo_farDown hMo_axisOf Mo_isThere Mo_stationX Mo_stationY Mo_stationZ Mo_told Mo_weight Mo_size Mo_extra Mo_poles Mo_poleX Mo_poleY Mo_poleZ Mo_pairs Mo_lesser Mo_greater Mo_isKnown Mo_least Mo_kept Mo_misfit Mo_nodal Mo_order Mo_placeOf Mo_axisX Mo_axisY Mo_axisZ Mo_axes Mo_unlikeX Mo_unlikeY Mo_unlikeZ Mo_farUp Mo_farDown Mo_axisOf]) sz) (va_Qi (fun (r : Int32) (u : (Nat → Int32) × (Nat → Int32) × (Nat → Int32)) => Q r u.1 u.2.1 u.2.2) (fun u t => kB D cy (va_A (List.flatten [wMo cy hMo hMo_isThere hMo_stationX hMo_stationY hMo_stationZ hMo_told hMo_weight hMo_poleX hMo_poleY hMo_poleZ hMo_lesser hMo_greater hMo_misfit hMo_nodal hMo_order hMo_placeOf hMo_unlikeX hMo_unlikeY hMo_unlikeZ hMo_farUp hMo_farDown hMo_axisOf Mo_isThere Mo_stationX Mo_stationY Mo_stationZ Mo_told Mo_weight Mo_size Mo_extra Mo_poles Mo_poleX Mo_poleY Mo_poleZ Mo_pairs Mo_lesser Mo_greater Mo_isKnown Mo_least Mo_kept Mo_misfit Mo_nodal Mo_order Mo_placeOf Mo_axisX Mo_axisY Mo_axisZ Mo_axes Mo_unlikeX Mo_unlikeY Mo_unlikeZ Mo_farUp Mo_farDown Mo_axisOf]) sz) (List.flatten [wMo cy hMo hMo_isThere hMo_stationX hMo_stationY hMo_stationZ hMo_told hMo_weight hMo_poleX hMo_poleY hMo_poleZ hMo_lesser hMo_greater hMo_misfit hMo_nodal hMo_order hMo_placeOf hMo_unlikeX hMo_unlikeY hMo_unlikeZ hMo_farUp hMo_farDown hMo_axisOf Mo_isThere u.1 u.2.1 u.2.2 Mo_told Mo_weight Mo_size Mo_extra Mo_poles Mo_poleX Mo_poleY Mo_poleZ Mo_pairs Mo_lesser Mo_greater Mo_isKnown Mo_least Mo_kept Mo_misfit Mo_nodal Mo_order Mo_placeOf Mo_axisX Mo_axisY Mo_axisZ Mo_axes Mo_unlikeX Mo_unlikeY Mo_unlikeZ Mo_farUp Mo_farDown Mo_axisOf]) t) (va_A (List.flatten [wMo cy hMo hMo_isThere hMo_stationX hMo_stationY hMo_stationZ hMo_told hMo_weight hMo_poleX hMo_poleY hMo_poleZ hMo_lesser hMo_greater hMo_misfit hMo_nodal hMo_order hMo_placeOf hMo_unlikeX hMo_unlikeY hMo_unlikeZ hMo_farUp hMo_farDown hMo_axisOf Mo_isThere Mo_stationX Mo_stationY Mo_stationZ Mo_told Mo_weight Mo_size Mo_extra Mo_poles Mo_poleX Mo_poleY Mo_poleZ Mo_pairs Mo_lesser Mo_greater Mo_isKnown Mo_least Mo_kept Mo_misfit Mo_nodal Mo_order Mo_placeOf Mo_axisX Mo_axisY Mo_axisZ Mo_axes Mo_unlikeX Mo_unlikeY Mo_unlikeZ Mo_farUp Mo_farDown Mo_axisOf]) sz)) 0 0 (va_A (List.flatten [wMo cy hMo hMo_isThere hMo_stationX hMo_stationY hMo_stationZ hMo_told hMo_weight hMo_poleX hMo_poleY hMo_poleZ hMo_lesser hMo_greater hMo_misfit hMo_nodal hMo_order hMo_placeOf hMo_unlikeX hMo_unlikeY hMo_unlikeZ hMo_farUp hMo_farDown hMo_axisOf Mo_isThere Mo_stationX Mo_stationY Mo_stationZ Mo_told Mo_weight Mo_size Mo_extra Mo_poles Mo_poleX Mo_poleY Mo_poleZ Mo_pairs Mo_lesser Mo_greater Mo_isKnown Mo_least Mo_kept Mo_misfit Mo_nodal Mo_order Mo_placeOf Mo_axisX Mo_axisY Mo_axisZ Mo_axes Mo_unlikeX Mo_unlikeY Mo_unlikeZ Mo_farUp Mo_farDown Mo_axisOf]) sz) := by
  refine Met.ofW (cc := cX6_turns) (maxL := 6) (ret := (some .boolean)) (by decide) rfl ?_
  intro p e s m args below meth c s₁ B hml hv
  obtain ⟨rfl, hsz, hN, hP, hK, hD0⟩ := hv
  have hx := B.exec
  have hb := B.bytes
  have hr := B.returns
  have hts0 := atoms_spec (ws := wA yX6_turns cX6_turns 6 (some .boolean)) B.pre
  have hts := fun w (h : w ∈ wsL_law) => hts0 w (List.mem_cons_of_mem _ h)
  have hown : s.vm.findClass RX6 = some m.cls := findClass_of_methodNamed B.named
  have hlocks := B.notSynchronized
  subst hsz
  have hD := hD0.self (sz := s.heap.size)
  generalize hAe : va_A (List.flatten [wMo cy hMo hMo_isThere hMo_stationX hMo_stationY hMo_stationZ hMo_told hMo_weight hMo_poleX hMo_poleY hMo_poleZ hMo_lesser hMo_greater hMo_misfit hMo_nodal hMo_order hMo_placeOf hMo_unlikeX hMo_unlikeY hMo_unlikeZ hMo_farUp hMo_farDown hMo_axisOf Mo_isThere Mo_stationX Mo_stationY Mo_stationZ Mo_told Mo_weight Mo_size Mo_extra Mo_poles Mo_poleX Mo_poleY Mo_poleZ Mo_pairs Mo_lesser Mo_greater Mo_isKnown Mo_least Mo_kept Mo_misfit Mo_nodal Mo_order Mo_placeOf Mo_axisX Mo_axisY Mo_axisZ Mo_axes Mo_unlikeX Mo_unlikeY Mo_unlikeZ Mo_farUp Mo_farDown Mo_axisOf]) s.heap.size = A at hD ⊢
  have hA : ∀ q : Nat, s.heap.size ≤ q → A q := fun q h => by rw [← hAe]; exact Or.inr h
  have hS : va_S A s.heap s.heap [] := va_S.rf
  have hP : va_P D vwCl (List.flatten [wMo cy hMo hMo_isThere hMo_stationX hMo_stationY hMo_stationZ hMo_told hMo_weight hMo_poleX hMo_poleY hMo_poleZ hMo_lesser hMo_greater hMo_misfit hMo_nodal hMo_order hMo_placeOf hMo_unlikeX hMo_unlikeY hMo_unlikeZ hMo_farUp hMo_farDown hMo_axisOf Mo_isThere Mo_stationX Mo_stationY Mo_stationZ Mo_told Mo_weight Mo_size Mo_extra Mo_poles Mo_poleX Mo_poleY Mo_poleZ Mo_pairs Mo_lesser Mo_greater Mo_isKnown Mo_least Mo_kept Mo_misfit Mo_nodal Mo_order Mo_placeOf Mo_axisX Mo_axisY Mo_axisZ Mo_axes Mo_unlikeX Mo_unlikeY Mo_unlikeZ Mo_farUp Mo_farDown Mo_axisOf]) s.heap := hP
  have hl := lv_entry ([.ref hMo, .int p0, .int p1]) (n := 6) (Nat.le_of_ble_eq_true rfl)
  rw [lg_entry_eq]
  generalize (lg_sl ([.ref hMo, .int p0, .int p1]) ++ List.replicate (6 - (lg_sl ([.ref hMo, .int p0, .int p1])).length) Slot.unset).toArray = ls at hl ⊢
  have hl : lv_has ls 6 [(0, .ref hMo), (1, .int p0), (2, .int p1)] := hl
  unfold wp_X6_turns at hw
  refine lv_aload_n hx hb dX6_turns_0 rfl (lv_at hl 0 rfl) ?_
  refine va_get (D := D) (ci := 6) (v := .ref hMo_stationX) (C := RX6) (T := TX6) (N := 32) hx hb hts inlX6 hown hK hP 0 rfl rfl 1 (by decide) (hts (.fieldLink RX6 13 "SquarePlanesModel" "stationX" "[I") mw_7_9) (fun _ h9 => h9) rfl dX6_turns_1 ?_
  refine lv_iload_n hx hb dX6_turns_4 rfl (lv_at hl 1 rfl) ?_
  refine va_iald hx hb hK hP 2 0 rfl rfl hw.1 dX6_turns_5 ?_
  have hw := hw.2
  refine lv_topi (fun x1 ex1 => ?_)
  have hw := hw x1 ex1
  refine lv_istore_n (lv' := [(3, .int x1), (0, .ref hMo), (1, .int p0), (2, .int p1)]) hx hb dX6_turns_6 rfl hl (by decide) rfl (fun ls hl => ?_)
  refine lv_aload_n hx hb dX6_turns_7 rfl (lv_at hl 1 rfl) ?_
  refine va_get (D := D) (ci := 6) (v := .ref hMo_stationY) (C := RX6) (T := TX6) (N := 32) hx hb hts inlX6 hown hK hP 0 rfl rfl 2 (by decide) (hts (.fieldLink RX6 17 "SquarePlanesModel" "stationY" "[I") mw_7_10) (fun _ h9 => h9) rfl dX6_turns_8 ?_
  refine lv_iload_n hx hb dX6_turns_11 rfl (lv_at hl 2 rfl) ?_
  refine va_iald hx hb hK hP 3 0 rfl rfl hw.1 dX6_turns_12 ?_
  have hw := hw.2
  refine lv_topi (fun x2 ex2 => ?_)
  have hw := hw x2 ex2
  refine lv_istore (lv' := [(4, .int x2), (3, .int x1), (0, .ref hMo), (1, .int p0), (2, .int p1)]) hx hb dX6_turns_13 hl (by decide) rfl (fun ls hl => ?_)
  refine lv_aload_n hx hb dX6_turns_15 rfl (lv_at hl 2 rfl) ?_
  refine va_get (D := D) (ci := 6) (v := .ref hMo_stationZ) (C := RX6) (T := TX6) (N := 32) hx hb hts inlX6 hown hK hP 0 rfl rfl 3 (by decide) (hts (.fieldLink RX6 20 "SquarePlanesModel" "stationZ" "[I") mw_7_11) (fun _ h9 => h9) rfl dX6_turns_16 ?_
  refine lv_iload_n hx hb dX6_turns_19 rfl (lv_at hl 3 rfl) ?_
  refine va_iald hx hb hK hP 4 0 rfl rfl hw.1 dX6_turns_20 ?_
  have hw := hw.2
  refine lv_topi (fun x3 ex3 => ?_)
  have hw := hw x3 ex3
  refine lv_istore (lv' := [(5, .int x3), (4, .int x2), (3, .int x1), (0, .ref hMo), (1, .int p0), (2, .int p1)]) hx hb dX6_turns_21 hl (by decide) rfl (fun ls hl => ?_)
  refine lv_iload_n hx hb dX6_turns_23 rfl (lv_at hl 5 rfl) ?_
  by_cases c4_0 : p1 = 0
  · have hw := hw.1 c4_0
    have tv : (p1).toInt = 0 := by rw [c4_0]; rfl
    refine lv_tableIn (tgt := 52) hx hb dX6_turns_24 (by rw [tv]; decide) (by rw [tv]; decide) (by rw [tv]; rfl) (by decide) ?_
    refine lv_aload_n hx hb dX6_turns_52 rfl (lv_at hl 3 rfl) ?_
    refine va_get (D := D) (ci := 6) (v := .ref hMo_stationY) (C := RX6) (T := TX6) (N := 32) hx hb hts inlX6 hown hK hP 0 rfl rfl 2 (by decide) (hts (.fieldLink RX6 17 "SquarePlanesModel" "stationY" "[I") mw_7_10) (fun _ h9 => h9) rfl dX6_turns_53 ?_
    refine lv_iload_n hx hb dX6_turns_56 rfl (lv_at hl 4 rfl) ?_
    refine lv_iload hx hb dX6_turns_57 (lv_at hl 0 rfl) ?_
    refine lv_ineg hx hb dX6_turns_59 ?_
    refine lv_topi (fun x5 ex5 => ?_)
    have hw := hw x5 ex5
    refine va_iast hx hb hK hP hD hS 3 0 rfl rfl hw.1 dX6_turns_60 (fun H locs hP hD hS => ?_)
    have hw := hw.2
    have hP : va_P D vwCl (List.flatten [wMo cy hMo hMo_isThere hMo_stationX hMo_stationY hMo_stationZ hMo_told hMo_weight hMo_poleX hMo_poleY hMo_poleZ hMo_lesser hMo_greater hMo_misfit hMo_nodal hMo_order hMo_placeOf hMo_unlikeX hMo_unlikeY hMo_unlikeZ hMo_farUp hMo_farDown hMo_axisOf Mo_isThere Mo_stationX (upd Mo_stationY p0.toNatClampNeg x5) Mo_stationZ Mo_told Mo_weight Mo_size Mo_extra Mo_poles Mo_poleX Mo_poleY Mo_poleZ Mo_pairs Mo_lesser Mo_greater Mo_isKnown Mo_least Mo_kept Mo_misfit Mo_nodal Mo_order Mo_placeOf Mo_axisX Mo_axisY Mo_axisZ Mo_axes Mo_unlikeX Mo_unlikeY Mo_unlikeZ Mo_farUp Mo_farDown Mo_axisOf]) H := hP
    have hD : va_D A (List.flatten [wMo cy hMo hMo_isThere hMo_stationX hMo_stationY hMo_stationZ hMo_told hMo_weight hMo_poleX hMo_poleY hMo_poleZ hMo_lesser hMo_greater hMo_misfit hMo_nodal hMo_order hMo_placeOf hMo_unlikeX hMo_unlikeY hMo_unlikeZ hMo_farUp hMo_farDown hMo_axisOf Mo_isThere Mo_stationX (upd Mo_stationY p0.toNatClampNeg x5) Mo_stationZ Mo_told Mo_weight Mo_size Mo_extra Mo_poles Mo_poleX Mo_poleY Mo_poleZ Mo_pairs Mo_lesser Mo_greater Mo_isKnown Mo_least Mo_kept Mo_misfit Mo_nodal Mo_order Mo_placeOf Mo_axisX Mo_axisY Mo_axisZ Mo_axes Mo_unlikeX Mo_unlikeY Mo_unlikeZ Mo_farUp Mo_farDown Mo_axisOf]) := hD
    refine lv_aload_n hx hb dX6_turns_61 rfl (lv_at hl 3 rfl) ?_
    refine va_get (D := D) (ci := 6) (v := .ref hMo_stationZ) (C := RX6) (T := TX6) (N := 32) hx hb hts inlX6 hown hK hP 0 rfl rfl 3 (by decide) (hts (.fieldLink RX6 20 "SquarePlanesModel" "stationZ" "[I") mw_7_11) (fun _ h9 => h9) rfl dX6_turns_62 ?_
    refine lv_iload_n hx hb dX6_turns_65 rfl (lv_at hl 4 rfl) ?_
    refine lv_iload hx hb dX6_turns_66 (lv_at hl 1 rfl) ?_
    refine va_iast hx hb hK hP hD hS 4 0 rfl rfl hw.1 dX6_turns_68 (fun H locs hP hD hS => ?_)
    have hw := hw.2
    have hP : va_P D vwCl (List.flatten [wMo cy hMo hMo_isThere hMo_stationX hMo_stationY hMo_stationZ hMo_told hMo_weight hMo_poleX hMo_poleY hMo_poleZ hMo_lesser hMo_greater hMo_misfit hMo_nodal hMo_order hMo_placeOf hMo_unlikeX hMo_unlikeY hMo_unlikeZ hMo_farUp hMo_farDown hMo_axisOf Mo_isThere Mo_stationX (upd Mo_stationY p0.toNatClampNeg x5) (upd Mo_stationZ p0.toNatClampNeg x2) Mo_told Mo_weight Mo_size Mo_extra Mo_poles Mo_poleX Mo_poleY Mo_poleZ Mo_pairs Mo_lesser Mo_greater Mo_isKnown Mo_least Mo_kept Mo_misfit Mo_nodal Mo_order Mo_placeOf Mo_axisX Mo_axisY Mo_axisZ Mo_axes Mo_unlikeX Mo_unlikeY Mo_unlikeZ Mo_farUp Mo_farDown Mo_axisOf]) H := hP
    have hD : va_D A (List.flatten [wMo cy hMo hMo_isThere hMo_stationX hMo_stationY hMo_stationZ hMo_told hMo_weight hMo_poleX hMo_poleY hMo_poleZ hMo_lesser hMo_greater hMo_misfit hMo_nodal hMo_order hMo_placeOf hMo_unlikeX hMo_unlikeY hMo_unlikeZ hMo_farUp hMo_farDown hMo_axisOf Mo_isThere Mo_stationX (upd Mo_stationY p0.toNatClampNeg x5) (upd Mo_stationZ p0.toNatClampNeg x2) Mo_told Mo_weight Mo_size Mo_extra Mo_poles Mo_poleX Mo_poleY Mo_poleZ Mo_pairs Mo_lesser Mo_greater Mo_isKnown Mo_least Mo_kept Mo_misfit Mo_nodal Mo_order Mo_placeOf Mo_axisX Mo_axisY Mo_axisZ Mo_axes Mo_unlikeX Mo_unlikeY Mo_unlikeZ Mo_farUp Mo_farDown Mo_axisOf]) := hD
    refine lv_goto (tgt := 119) hx hb dX6_turns_69 (by decide) ?_
    refine lv_aload_n hx hb dX6_turns_119 rfl (lv_at hl 3 rfl) ?_
    refine va_get (D := D) (ci := 6) (v := .ref hMo_stationX) (C := RX6) (T := TX6) (N := 32) hx hb hts inlX6 hown hK hP 0 rfl rfl 1 (by decide) (hts (.fieldLink RX6 13 "SquarePlanesModel" "stationX" "[I") mw_7_9) (fun _ h9 => h9) rfl dX6_turns_120 ?_
    refine lv_iload_n hx hb dX6_turns_123 rfl (lv_at hl 4 rfl) ?_
    refine va_iald hx hb hK hP 2 0 rfl rfl hw.1 dX6_turns_124 ?_
    have hw := hw.2
    refine lv_iload_n hx hb dX6_turns_125 rfl (lv_at hl 2 rfl) ?_
    refine lv_icmp_ne (tgt := 151) hx hb dX6_turns_126 (by decide) (fun c8 => ?_) (fun c8 => ?_)
    · have hw := hw.2 c8
      refine lv_iconst (v := 1) hx hb dX6_turns_151 (by decide) ?_
      refine lv_goto (tgt := 156) hx hb dX6_turns_152 (by decide) ?_
      exact W.zret (v := 1) hx hb hr rfl (fun t ht hW => ⟨⟨1, (Mo_stationX, upd Mo_stationY p0.toNatClampNeg x5, upd Mo_stationZ p0.toNatClampNeg x2), rfl, hw, ⟨by rw [ht]; exact hP, va_K.moved hW.alike hK, hD⟩⟩, hS.F ht⟩) hS.2.2 dX6_turns_156
    · have hw := hw.1 c8
      refine lv_aload_n hx hb dX6_turns_129 rfl (lv_at hl 3 rfl) ?_
      refine va_get (D := D) (ci := 6) (v := .ref hMo_stationY) (C := RX6) (T := TX6) (N := 32) hx hb hts inlX6 hown hK hP 0 rfl rfl 2 (by decide) (hts (.fieldLink RX6 17 "SquarePlanesModel" "stationY" "[I") mw_7_10) (fun _ h9 => h9) rfl dX6_turns_130 ?_
      refine lv_iload_n hx hb dX6_turns_133 rfl (lv_at hl 4 rfl) ?_
      refine va_iald hx hb hK hP 3 0 rfl rfl hw.1 dX6_turns_134 ?_
      have hw := hw.2
      refine lv_iload hx hb dX6_turns_135 (lv_at hl 1 rfl) ?_
      refine lv_icmp_ne (tgt := 151) hx hb dX6_turns_137 (by decide) (fun c7 => ?_) (fun c7 => ?_)
      · have hw := hw.2 c7
        refine lv_iconst (v := 1) hx hb dX6_turns_151 (by decide) ?_
        refine lv_goto (tgt := 156) hx hb dX6_turns_152 (by decide) ?_
        exact W.zret (v := 1) hx hb hr rfl (fun t ht hW => ⟨⟨1, (Mo_stationX, upd Mo_stationY p0.toNatClampNeg x5, upd Mo_stationZ p0.toNatClampNeg x2), rfl, hw, ⟨by rw [ht]; exact hP, va_K.moved hW.alike hK, hD⟩⟩, hS.F ht⟩) hS.2.2 dX6_turns_156
      · have hw := hw.1 c7
        refine lv_aload_n hx hb dX6_turns_140 rfl (lv_at hl 3 rfl) ?_
        refine va_get (D := D) (ci := 6) (v := .ref hMo_stationZ) (C := RX6) (T := TX6) (N := 32) hx hb hts inlX6 hown hK hP 0 rfl rfl 3 (by decide) (hts (.fieldLink RX6 20 "SquarePlanesModel" "stationZ" "[I") mw_7_11) (fun _ h9 => h9) rfl dX6_turns_141 ?_
        refine lv_iload_n hx hb dX6_turns_144 rfl (lv_at hl 4 rfl) ?_
        refine va_iald hx hb hK hP 4 0 rfl rfl hw.1 dX6_turns_145 ?_
        have hw := hw.2
        refine lv_iload hx hb dX6_turns_146 (lv_at hl 0 rfl) ?_
        refine lv_icmp_eq (tgt := 155) hx hb dX6_turns_148 (by decide) (fun c6 => ?_) (fun c6 => ?_)
        · have hw := hw.1 c6
          refine lv_iconst (v := 0) hx hb dX6_turns_155 (by decide) ?_
          exact W.zret (v := 0) hx hb hr rfl (fun t ht hW => ⟨⟨0, (Mo_stationX, upd Mo_stationY p0.toNatClampNeg x5, upd Mo_stationZ p0.toNatClampNeg x2), rfl, hw, ⟨by rw [ht]; exact hP, va_K.moved hW.alike hK, hD⟩⟩, hS.F ht⟩) hS.2.2 dX6_turns_156
        · have hw := hw.2 c6
          refine lv_iconst (v := 1) hx hb dX6_turns_151 (by decide) ?_
          refine lv_goto (tgt := 156) hx hb dX6_turns_152 (by decide) ?_
          exact W.zret (v := 1) hx hb hr rfl (fun t ht hW => ⟨⟨1, (Mo_stationX, upd Mo_stationY p0.toNatClampNeg x5, upd Mo_stationZ p0.toNatClampNeg x2), rfl, hw, ⟨by rw [ht]; exact hP, va_K.moved hW.alike hK, hD⟩⟩, hS.F ht⟩) hS.2.2 dX6_turns_156
  by_cases c4_1 : p1 = 1
  · have hw := hw.2.1 c4_1
    have tv : (p1).toInt = 1 := by rw [c4_1]; rfl
    refine lv_tableIn (tgt := 72) hx hb dX6_turns_24 (by rw [tv]; decide) (by rw [tv]; decide) (by rw [tv]; rfl) (by decide) ?_
    refine lv_aload_n hx hb dX6_turns_72 rfl (lv_at hl 3 rfl) ?_
    refine va_get (D := D) (ci := 6) (v := .ref hMo_stationX) (C := RX6) (T := TX6) (N := 32) hx hb hts inlX6 hown hK hP 0 rfl rfl 1 (by decide) (hts (.fieldLink RX6 13 "SquarePlanesModel" "stationX" "[I") mw_7_9) (fun _ h9 => h9) rfl dX6_turns_73 ?_
    refine lv_iload_n hx hb dX6_turns_76 rfl (lv_at hl 4 rfl) ?_
    refine lv_iload hx hb dX6_turns_77 (lv_at hl 0 rfl) ?_
    refine va_iast hx hb hK hP hD hS 2 0 rfl rfl hw.1 dX6_turns_79 (fun H locs hP hD hS => ?_)
    have hw := hw.2
    have hP : va_P D vwCl (List.flatten [wMo cy hMo hMo_isThere hMo_stationX hMo_stationY hMo_stationZ hMo_told hMo_weight hMo_poleX hMo_poleY hMo_poleZ hMo_lesser hMo_greater hMo_misfit hMo_nodal hMo_order hMo_placeOf hMo_unlikeX hMo_unlikeY hMo_unlikeZ hMo_farUp hMo_farDown hMo_axisOf Mo_isThere (upd Mo_stationX p0.toNatClampNeg x3) Mo_stationY Mo_stationZ Mo_told Mo_weight Mo_size Mo_extra Mo_poles Mo_poleX Mo_poleY Mo_poleZ Mo_pairs Mo_lesser Mo_greater Mo_isKnown Mo_least Mo_kept Mo_misfit Mo_nodal Mo_order Mo_placeOf Mo_axisX Mo_axisY Mo_axisZ Mo_axes Mo_unlikeX Mo_unlikeY Mo_unlikeZ Mo_farUp Mo_farDown Mo_axisOf]) H := hP
    have hD : va_D A (List.flatten [wMo cy hMo hMo_isThere hMo_stationX hMo_stationY hMo_stationZ hMo_told hMo_weight hMo_poleX hMo_poleY hMo_poleZ hMo_lesser hMo_greater hMo_misfit hMo_nodal hMo_order hMo_placeOf hMo_unlikeX hMo_unlikeY hMo_unlikeZ hMo_farUp hMo_farDown hMo_axisOf Mo_isThere (upd Mo_stationX p0.toNatClampNeg x3) Mo_stationY Mo_stationZ Mo_told Mo_weight Mo_size Mo_extra Mo_poles Mo_poleX Mo_poleY Mo_poleZ Mo_pairs Mo_lesser Mo_greater Mo_isKnown Mo_least Mo_kept Mo_misfit Mo_nodal Mo_order Mo_placeOf Mo_axisX Mo_axisY Mo_axisZ Mo_axes Mo_unlikeX Mo_unlikeY Mo_unlikeZ Mo_farUp Mo_farDown Mo_axisOf]) := hD
    refine lv_aload_n hx hb dX6_turns_80 rfl (lv_at hl 3 rfl) ?_
    refine va_get (D := D) (ci := 6) (v := .ref hMo_stationZ) (C := RX6) (T := TX6) (N := 32) hx hb hts inlX6 hown hK hP 0 rfl rfl 3 (by decide) (hts (.fieldLink RX6 20 "SquarePlanesModel" "stationZ" "[I") mw_7_11) (fun _ h9 => h9) rfl dX6_turns_81 ?_
    refine lv_iload_n hx hb dX6_turns_84 rfl (lv_at hl 4 rfl) ?_
    refine lv_iload_n hx hb dX6_turns_85 rfl (lv_at hl 2 rfl) ?_
    refine lv_ineg hx hb dX6_turns_86 ?_
    refine lv_topi (fun x9 ex9 => ?_)
    have hw := hw x9 ex9
    refine va_iast hx hb hK hP hD hS 4 0 rfl rfl hw.1 dX6_turns_87 (fun H locs hP hD hS => ?_)
    have hw := hw.2
    have hP : va_P D vwCl (List.flatten [wMo cy hMo hMo_isThere hMo_stationX hMo_stationY hMo_stationZ hMo_told hMo_weight hMo_poleX hMo_poleY hMo_poleZ hMo_lesser hMo_greater hMo_misfit hMo_nodal hMo_order hMo_placeOf hMo_unlikeX hMo_unlikeY hMo_unlikeZ hMo_farUp hMo_farDown hMo_axisOf Mo_isThere (upd Mo_stationX p0.toNatClampNeg x3) Mo_stationY (upd Mo_stationZ p0.toNatClampNeg x9) Mo_told Mo_weight Mo_size Mo_extra Mo_poles Mo_poleX Mo_poleY Mo_poleZ Mo_pairs Mo_lesser Mo_greater Mo_isKnown Mo_least Mo_kept Mo_misfit Mo_nodal Mo_order Mo_placeOf Mo_axisX Mo_axisY Mo_axisZ Mo_axes Mo_unlikeX Mo_unlikeY Mo_unlikeZ Mo_farUp Mo_farDown Mo_axisOf]) H := hP
    have hD : va_D A (List.flatten [wMo cy hMo hMo_isThere hMo_stationX hMo_stationY hMo_stationZ hMo_told hMo_weight hMo_poleX hMo_poleY hMo_poleZ hMo_lesser hMo_greater hMo_misfit hMo_nodal hMo_order hMo_placeOf hMo_unlikeX hMo_unlikeY hMo_unlikeZ hMo_farUp hMo_farDown hMo_axisOf Mo_isThere (upd Mo_stationX p0.toNatClampNeg x3) Mo_stationY (upd Mo_stationZ p0.toNatClampNeg x9) Mo_told Mo_weight Mo_size Mo_extra Mo_poles Mo_poleX Mo_poleY Mo_poleZ Mo_pairs Mo_lesser Mo_greater Mo_isKnown Mo_least Mo_kept Mo_misfit Mo_nodal Mo_order Mo_placeOf Mo_axisX Mo_axisY Mo_axisZ Mo_axes Mo_unlikeX Mo_unlikeY Mo_unlikeZ Mo_farUp Mo_farDown Mo_axisOf]) := hD
    refine lv_goto (tgt := 119) hx hb dX6_turns_88 (by decide) ?_
    refine lv_aload_n hx hb dX6_turns_119 rfl (lv_at hl 3 rfl) ?_
    refine va_get (D := D) (ci := 6) (v := .ref hMo_stationX) (C := RX6) (T := TX6) (N := 32) hx hb hts inlX6 hown hK hP 0 rfl rfl 1 (by decide) (hts (.fieldLink RX6 13 "SquarePlanesModel" "stationX" "[I") mw_7_9) (fun _ h9 => h9) rfl dX6_turns_120 ?_
    refine lv_iload_n hx hb dX6_turns_123 rfl (lv_at hl 4 rfl) ?_
    refine va_iald hx hb hK hP 2 0 rfl rfl hw.1 dX6_turns_124 ?_
    have hw := hw.2
    refine lv_iload_n hx hb dX6_turns_125 rfl (lv_at hl 2 rfl) ?_
    refine lv_icmp_ne (tgt := 151) hx hb dX6_turns_126 (by decide) (fun c12 => ?_) (fun c12 => ?_)
    · have hw := hw.2 c12
      refine lv_iconst (v := 1) hx hb dX6_turns_151 (by decide) ?_
      refine lv_goto (tgt := 156) hx hb dX6_turns_152 (by decide) ?_
      exact W.zret (v := 1) hx hb hr rfl (fun t ht hW => ⟨⟨1, (upd Mo_stationX p0.toNatClampNeg x3, Mo_stationY, upd Mo_stationZ p0.toNatClampNeg x9), rfl, hw, ⟨by rw [ht]; exact hP, va_K.moved hW.alike hK, hD⟩⟩, hS.F ht⟩) hS.2.2 dX6_turns_156
    · have hw := hw.1 c12
      refine lv_aload_n hx hb dX6_turns_129 rfl (lv_at hl 3 rfl) ?_
      refine va_get (D := D) (ci := 6) (v := .ref hMo_stationY) (C := RX6) (T := TX6) (N := 32) hx hb hts inlX6 hown hK hP 0 rfl rfl 2 (by decide) (hts (.fieldLink RX6 17 "SquarePlanesModel" "stationY" "[I") mw_7_10) (fun _ h9 => h9) rfl dX6_turns_130 ?_
      refine lv_iload_n hx hb dX6_turns_133 rfl (lv_at hl 4 rfl) ?_
      refine va_iald hx hb hK hP 3 0 rfl rfl hw.1 dX6_turns_134 ?_
      have hw := hw.2
      refine lv_iload hx hb dX6_turns_135 (lv_at hl 1 rfl) ?_
      refine lv_icmp_ne (tgt := 151) hx hb dX6_turns_137 (by decide) (fun c11 => ?_) (fun c11 => ?_)
      · have hw := hw.2 c11
        refine lv_iconst (v := 1) hx hb dX6_turns_151 (by decide) ?_
        refine lv_goto (tgt := 156) hx hb dX6_turns_152 (by decide) ?_
        exact W.zret (v := 1) hx hb hr rfl (fun t ht hW => ⟨⟨1, (upd Mo_stationX p0.toNatClampNeg x3, Mo_stationY, upd Mo_stationZ p0.toNatClampNeg x9), rfl, hw, ⟨by rw [ht]; exact hP, va_K.moved hW.alike hK, hD⟩⟩, hS.F ht⟩) hS.2.2 dX6_turns_156
      · have hw := hw.1 c11
        refine lv_aload_n hx hb dX6_turns_140 rfl (lv_at hl 3 rfl) ?_
        refine va_get (D := D) (ci := 6) (v := .ref hMo_stationZ) (C := RX6) (T := TX6) (N := 32) hx hb hts inlX6 hown hK hP 0 rfl rfl 3 (by decide) (hts (.fieldLink RX6 20 "SquarePlanesModel" "stationZ" "[I") mw_7_11) (fun _ h9 => h9) rfl dX6_turns_141 ?_
        refine lv_iload_n hx hb dX6_turns_144 rfl (lv_at hl 4 rfl) ?_
        refine va_iald hx hb hK hP 4 0 rfl rfl hw.1 dX6_turns_145 ?_
        have hw := hw.2
        refine lv_iload hx hb dX6_turns_146 (lv_at hl 0 rfl) ?_
        refine lv_icmp_eq (tgt := 155) hx hb dX6_turns_148 (by decide) (fun c10 => ?_) (fun c10 => ?_)
        · have hw := hw.1 c10
          refine lv_iconst (v := 0) hx hb dX6_turns_155 (by decide) ?_
          exact W.zret (v := 0) hx hb hr rfl (fun t ht hW => ⟨⟨0, (upd Mo_stationX p0.toNatClampNeg x3, Mo_stationY, upd Mo_stationZ p0.toNatClampNeg x9), rfl, hw, ⟨by rw [ht]; exact hP, va_K.moved hW.alike hK, hD⟩⟩, hS.F ht⟩) hS.2.2 dX6_turns_156
        · have hw := hw.2 c10
          refine lv_iconst (v := 1) hx hb dX6_turns_151 (by decide) ?_
          refine lv_goto (tgt := 156) hx hb dX6_turns_152 (by decide) ?_
          exact W.zret (v := 1) hx hb hr rfl (fun t ht hW => ⟨⟨1, (upd Mo_stationX p0.toNatClampNeg x3, Mo_stationY, upd Mo_stationZ p0.toNatClampNeg x9), rfl, hw, ⟨by rw [ht]; exact hP, va_K.moved hW.alike hK, hD⟩⟩, hS.F ht⟩) hS.2.2 dX6_turns_156
  by_cases c4_2 : p1 = 2
  · have hw := hw.2.2.1 c4_2
    have tv : (p1).toInt = 2 := by rw [c4_2]; rfl
    refine lv_tableIn (tgt := 91) hx hb dX6_turns_24 (by rw [tv]; decide) (by rw [tv]; decide) (by rw [tv]; rfl) (by decide) ?_
    refine lv_aload_n hx hb dX6_turns_91 rfl (lv_at hl 3 rfl) ?_
    refine va_get (D := D) (ci := 6) (v := .ref hMo_stationX) (C := RX6) (T := TX6) (N := 32) hx hb hts inlX6 hown hK hP 0 rfl rfl 1 (by decide) (hts (.fieldLink RX6 13 "SquarePlanesModel" "stationX" "[I") mw_7_9) (fun _ h9 => h9) rfl dX6_turns_92 ?_
    refine lv_iload_n hx hb dX6_turns_95 rfl (lv_at hl 4 rfl) ?_
    refine lv_iload hx hb dX6_turns_96 (lv_at hl 1 rfl) ?_
    refine lv_ineg hx hb dX6_turns_98 ?_
    refine lv_topi (fun x13 ex13 => ?_)
    have hw := hw x13 ex13
    refine va_iast hx hb hK hP hD hS 2 0 rfl rfl hw.1 dX6_turns_99 (fun H locs hP hD hS => ?_)
    have hw := hw.2
    have hP : va_P D vwCl (List.flatten [wMo cy hMo hMo_isThere hMo_stationX hMo_stationY hMo_stationZ hMo_told hMo_weight hMo_poleX hMo_poleY hMo_poleZ hMo_lesser hMo_greater hMo_misfit hMo_nodal hMo_order hMo_placeOf hMo_unlikeX hMo_unlikeY hMo_unlikeZ hMo_farUp hMo_farDown hMo_axisOf Mo_isThere (upd Mo_stationX p0.toNatClampNeg x13) Mo_stationY Mo_stationZ Mo_told Mo_weight Mo_size Mo_extra Mo_poles Mo_poleX Mo_poleY Mo_poleZ Mo_pairs Mo_lesser Mo_greater Mo_isKnown Mo_least Mo_kept Mo_misfit Mo_nodal Mo_order Mo_placeOf Mo_axisX Mo_axisY Mo_axisZ Mo_axes Mo_unlikeX Mo_unlikeY Mo_unlikeZ Mo_farUp Mo_farDown Mo_axisOf]) H := hP
    have hD : va_D A (List.flatten [wMo cy hMo hMo_isThere hMo_stationX hMo_stationY hMo_stationZ hMo_told hMo_weight hMo_poleX hMo_poleY hMo_poleZ hMo_lesser hMo_greater hMo_misfit hMo_nodal hMo_order hMo_placeOf hMo_unlikeX hMo_unlikeY hMo_unlikeZ hMo_farUp hMo_farDown hMo_axisOf Mo_isThere (upd Mo_stationX p0.toNatClampNeg x13) Mo_stationY Mo_stationZ Mo_told Mo_weight Mo_size Mo_extra Mo_poles Mo_poleX Mo_poleY Mo_poleZ Mo_pairs Mo_lesser Mo_greater Mo_isKnown Mo_least Mo_kept Mo_misfit Mo_nodal Mo_order Mo_placeOf Mo_axisX Mo_axisY Mo_axisZ Mo_axes Mo_unlikeX Mo_unlikeY Mo_unlikeZ Mo_farUp Mo_farDown Mo_axisOf]) := hD
    refine lv_aload_n hx hb dX6_turns_100 rfl (lv_at hl 3 rfl) ?_
    refine va_get (D := D) (ci := 6) (v := .ref hMo_stationY) (C := RX6) (T := TX6) (N := 32) hx hb hts inlX6 hown hK hP 0 rfl rfl 2 (by decide) (hts (.fieldLink RX6 17 "SquarePlanesModel" "stationY" "[I") mw_7_10) (fun _ h9 => h9) rfl dX6_turns_101 ?_
    refine lv_iload_n hx hb dX6_turns_104 rfl (lv_at hl 4 rfl) ?_
    refine lv_iload_n hx hb dX6_turns_105 rfl (lv_at hl 2 rfl) ?_
    refine va_iast hx hb hK hP hD hS 3 0 rfl rfl hw.1 dX6_turns_106 (fun H locs hP hD hS => ?_)
    have hw := hw.2
    have hP : va_P D vwCl (List.flatten [wMo cy hMo hMo_isThere hMo_stationX hMo_stationY hMo_stationZ hMo_told hMo_weight hMo_poleX hMo_poleY hMo_poleZ hMo_lesser hMo_greater hMo_misfit hMo_nodal hMo_order hMo_placeOf hMo_unlikeX hMo_unlikeY hMo_unlikeZ hMo_farUp hMo_farDown hMo_axisOf Mo_isThere (upd Mo_stationX p0.toNatClampNeg x13) (upd Mo_stationY p0.toNatClampNeg x1) Mo_stationZ Mo_told Mo_weight Mo_size Mo_extra Mo_poles Mo_poleX Mo_poleY Mo_poleZ Mo_pairs Mo_lesser Mo_greater Mo_isKnown Mo_least Mo_kept Mo_misfit Mo_nodal Mo_order Mo_placeOf Mo_axisX Mo_axisY Mo_axisZ Mo_axes Mo_unlikeX Mo_unlikeY Mo_unlikeZ Mo_farUp Mo_farDown Mo_axisOf]) H := hP
    have hD : va_D A (List.flatten [wMo cy hMo hMo_isThere hMo_stationX hMo_stationY hMo_stationZ hMo_told hMo_weight hMo_poleX hMo_poleY hMo_poleZ hMo_lesser hMo_greater hMo_misfit hMo_nodal hMo_order hMo_placeOf hMo_unlikeX hMo_unlikeY hMo_unlikeZ hMo_farUp hMo_farDown hMo_axisOf Mo_isThere (upd Mo_stationX p0.toNatClampNeg x13) (upd Mo_stationY p0.toNatClampNeg x1) Mo_stationZ Mo_told Mo_weight Mo_size Mo_extra Mo_poles Mo_poleX Mo_poleY Mo_poleZ Mo_pairs Mo_lesser Mo_greater Mo_isKnown Mo_least Mo_kept Mo_misfit Mo_nodal Mo_order Mo_placeOf Mo_axisX Mo_axisY Mo_axisZ Mo_axes Mo_unlikeX Mo_unlikeY Mo_unlikeZ Mo_farUp Mo_farDown Mo_axisOf]) := hD
    refine lv_goto (tgt := 119) hx hb dX6_turns_107 (by decide) ?_
    refine lv_aload_n hx hb dX6_turns_119 rfl (lv_at hl 3 rfl) ?_
    refine va_get (D := D) (ci := 6) (v := .ref hMo_stationX) (C := RX6) (T := TX6) (N := 32) hx hb hts inlX6 hown hK hP 0 rfl rfl 1 (by decide) (hts (.fieldLink RX6 13 "SquarePlanesModel" "stationX" "[I") mw_7_9) (fun _ h9 => h9) rfl dX6_turns_120 ?_
    refine lv_iload_n hx hb dX6_turns_123 rfl (lv_at hl 4 rfl) ?_
    refine va_iald hx hb hK hP 2 0 rfl rfl hw.1 dX6_turns_124 ?_
    have hw := hw.2
    refine lv_iload_n hx hb dX6_turns_125 rfl (lv_at hl 2 rfl) ?_
    refine lv_icmp_ne (tgt := 151) hx hb dX6_turns_126 (by decide) (fun c16 => ?_) (fun c16 => ?_)
    · have hw := hw.2 c16
      refine lv_iconst (v := 1) hx hb dX6_turns_151 (by decide) ?_
      refine lv_goto (tgt := 156) hx hb dX6_turns_152 (by decide) ?_
      exact W.zret (v := 1) hx hb hr rfl (fun t ht hW => ⟨⟨1, (upd Mo_stationX p0.toNatClampNeg x13, upd Mo_stationY p0.toNatClampNeg x1, Mo_stationZ), rfl, hw, ⟨by rw [ht]; exact hP, va_K.moved hW.alike hK, hD⟩⟩, hS.F ht⟩) hS.2.2 dX6_turns_156
    · have hw := hw.1 c16
      refine lv_aload_n hx hb dX6_turns_129 rfl (lv_at hl 3 rfl) ?_
      refine va_get (D := D) (ci := 6) (v := .ref hMo_stationY) (C := RX6) (T := TX6) (N := 32) hx hb hts inlX6 hown hK hP 0 rfl rfl 2 (by decide) (hts (.fieldLink RX6 17 "SquarePlanesModel" "stationY" "[I") mw_7_10) (fun _ h9 => h9) rfl dX6_turns_130 ?_
      refine lv_iload_n hx hb dX6_turns_133 rfl (lv_at hl 4 rfl) ?_
      refine va_iald hx hb hK hP 3 0 rfl rfl hw.1 dX6_turns_134 ?_
      have hw := hw.2
      refine lv_iload hx hb dX6_turns_135 (lv_at hl 1 rfl) ?_
      refine lv_icmp_ne (tgt := 151) hx hb dX6_turns_137 (by decide) (fun c15 => ?_) (fun c15 => ?_)
      · have hw := hw.2 c15
        refine lv_iconst (v := 1) hx hb dX6_turns_151 (by decide) ?_
        refine lv_goto (tgt := 156) hx hb dX6_turns_152 (by decide) ?_
        exact W.zret (v := 1) hx hb hr rfl (fun t ht hW => ⟨⟨1, (upd Mo_stationX p0.toNatClampNeg x13, upd Mo_stationY p0.toNatClampNeg x1, Mo_stationZ), rfl, hw, ⟨by rw [ht]; exact hP, va_K.moved hW.alike hK, hD⟩⟩, hS.F ht⟩) hS.2.2 dX6_turns_156
      · have hw := hw.1 c15
        refine lv_aload_n hx hb dX6_turns_140 rfl (lv_at hl 3 rfl) ?_
        refine va_get (D := D) (ci := 6) (v := .ref hMo_stationZ) (C := RX6) (T := TX6) (N := 32) hx hb hts inlX6 hown hK hP 0 rfl rfl 3 (by decide) (hts (.fieldLink RX6 20 "SquarePlanesModel" "stationZ" "[I") mw_7_11) (fun _ h9 => h9) rfl dX6_turns_141 ?_
        refine lv_iload_n hx hb dX6_turns_144 rfl (lv_at hl 4 rfl) ?_
        refine va_iald hx hb hK hP 4 0 rfl rfl hw.1 dX6_turns_145 ?_
        have hw := hw.2
        refine lv_iload hx hb dX6_turns_146 (lv_at hl 0 rfl) ?_
        refine lv_icmp_eq (tgt := 155) hx hb dX6_turns_148 (by decide) (fun c14 => ?_) (fun c14 => ?_)
        · have hw := hw.1 c14
          refine lv_iconst (v := 0) hx hb dX6_turns_155 (by decide) ?_
          exact W.zret (v := 0) hx hb hr rfl (fun t ht hW => ⟨⟨0, (upd Mo_stationX p0.toNatClampNeg x13, upd Mo_stationY p0.toNatClampNeg x1, Mo_stationZ), rfl, hw, ⟨by rw [ht]; exact hP, va_K.moved hW.alike hK, hD⟩⟩, hS.F ht⟩) hS.2.2 dX6_turns_156
        · have hw := hw.2 c14
          refine lv_iconst (v := 1) hx hb dX6_turns_151 (by decide) ?_
          refine lv_goto (tgt := 156) hx hb dX6_turns_152 (by decide) ?_
          exact W.zret (v := 1) hx hb hr rfl (fun t ht hW => ⟨⟨1, (upd Mo_stationX p0.toNatClampNeg x13, upd Mo_stationY p0.toNatClampNeg x1, Mo_stationZ), rfl, hw, ⟨by rw [ht]; exact hP, va_K.moved hW.alike hK, hD⟩⟩, hS.F ht⟩) hS.2.2 dX6_turns_156
  have hw := hw.2.2.2 c4_0 c4_1 c4_2
  refine lv_tableOut (tgt := 110) hx hb dX6_turns_24 (by have t0 := lv_neT (a := 0) c4_0 rfl; have t1 := lv_neT (a := 1) c4_1 rfl; have t2 := lv_neT (a := 2) c4_2 rfl; omega) (by decide) ?_
  refine lv_aload_n hx hb dX6_turns_110 rfl (lv_at hl 3 rfl) ?_
  refine va_get (D := D) (ci := 6) (v := .ref hMo_stationZ) (C := RX6) (T := TX6) (N := 32) hx hb hts inlX6 hown hK hP 0 rfl rfl 3 (by decide) (hts (.fieldLink RX6 20 "SquarePlanesModel" "stationZ" "[I") mw_7_11) (fun _ h9 => h9) rfl dX6_turns_111 ?_
  refine lv_iload_n hx hb dX6_turns_114 rfl (lv_at hl 4 rfl) ?_
  refine lv_iload hx hb dX6_turns_115 (lv_at hl 0 rfl) ?_
  refine lv_ineg hx hb dX6_turns_117 ?_
  refine lv_topi (fun x17 ex17 => ?_)
  have hw := hw x17 ex17
  refine va_iast hx hb hK hP hD hS 4 0 rfl rfl hw.1 dX6_turns_118 (fun H locs hP hD hS => ?_)
  have hw := hw.2
  have hP : va_P D vwCl (List.flatten [wMo cy hMo hMo_isThere hMo_stationX hMo_stationY hMo_stationZ hMo_told hMo_weight hMo_poleX hMo_poleY hMo_poleZ hMo_lesser hMo_greater hMo_misfit hMo_nodal hMo_order hMo_placeOf hMo_unlikeX hMo_unlikeY hMo_unlikeZ hMo_farUp hMo_farDown hMo_axisOf Mo_isThere Mo_stationX Mo_stationY (upd Mo_stationZ p0.toNatClampNeg x17) Mo_told Mo_weight Mo_size Mo_extra Mo_poles Mo_poleX Mo_poleY Mo_poleZ Mo_pairs Mo_lesser Mo_greater Mo_isKnown Mo_least Mo_kept Mo_misfit Mo_nodal Mo_order Mo_placeOf Mo_axisX Mo_axisY Mo_axisZ Mo_axes Mo_unlikeX Mo_unlikeY Mo_unlikeZ Mo_farUp Mo_farDown Mo_axisOf]) H := hP
  have hD : va_D A (List.flatten [wMo cy hMo hMo_isThere hMo_stationX hMo_stationY hMo_stationZ hMo_told hMo_weight hMo_poleX hMo_poleY hMo_poleZ hMo_lesser hMo_greater hMo_misfit hMo_nodal hMo_order hMo_placeOf hMo_unlikeX hMo_unlikeY hMo_unlikeZ hMo_farUp hMo_farDown hMo_axisOf Mo_isThere Mo_stationX Mo_stationY (upd Mo_stationZ p0.toNatClampNeg x17) Mo_told Mo_weight Mo_size Mo_extra Mo_poles Mo_poleX Mo_poleY Mo_poleZ Mo_pairs Mo_lesser Mo_greater Mo_isKnown Mo_least Mo_kept Mo_misfit Mo_nodal Mo_order Mo_placeOf Mo_axisX Mo_axisY Mo_axisZ Mo_axes Mo_unlikeX Mo_unlikeY Mo_unlikeZ Mo_farUp Mo_farDown Mo_axisOf]) := hD
  refine lv_aload_n hx hb dX6_turns_119 rfl (lv_at hl 3 rfl) ?_
  refine va_get (D := D) (ci := 6) (v := .ref hMo_stationX) (C := RX6) (T := TX6) (N := 32) hx hb hts inlX6 hown hK hP 0 rfl rfl 1 (by decide) (hts (.fieldLink RX6 13 "SquarePlanesModel" "stationX" "[I") mw_7_9) (fun _ h9 => h9) rfl dX6_turns_120 ?_
  refine lv_iload_n hx hb dX6_turns_123 rfl (lv_at hl 4 rfl) ?_
  refine va_iald hx hb hK hP 2 0 rfl rfl hw.1 dX6_turns_124 ?_
  have hw := hw.2
  refine lv_iload_n hx hb dX6_turns_125 rfl (lv_at hl 2 rfl) ?_
  refine lv_icmp_ne (tgt := 151) hx hb dX6_turns_126 (by decide) (fun c20 => ?_) (fun c20 => ?_)
  · have hw := hw.2 c20
    refine lv_iconst (v := 1) hx hb dX6_turns_151 (by decide) ?_
    refine lv_goto (tgt := 156) hx hb dX6_turns_152 (by decide) ?_
    exact W.zret (v := 1) hx hb hr rfl (fun t ht hW => ⟨⟨1, (Mo_stationX, Mo_stationY, upd Mo_stationZ p0.toNatClampNeg x17), rfl, hw, ⟨by rw [ht]; exact hP, va_K.moved hW.alike hK, hD⟩⟩, hS.F ht⟩) hS.2.2 dX6_turns_156
  · have hw := hw.1 c20
    refine lv_aload_n hx hb dX6_turns_129 rfl (lv_at hl 3 rfl) ?_
    refine va_get (D := D) (ci := 6) (v := .ref hMo_stationY) (C := RX6) (T := TX6) (N := 32) hx hb hts inlX6 hown hK hP 0 rfl rfl 2 (by decide) (hts (.fieldLink RX6 17 "SquarePlanesModel" "stationY" "[I") mw_7_10) (fun _ h9 => h9) rfl dX6_turns_130 ?_
    refine lv_iload_n hx hb dX6_turns_133 rfl (lv_at hl 4 rfl) ?_
    refine va_iald hx hb hK hP 3 0 rfl rfl hw.1 dX6_turns_134 ?_
    have hw := hw.2
    refine lv_iload hx hb dX6_turns_135 (lv_at hl 1 rfl) ?_
    refine lv_icmp_ne (tgt := 151) hx hb dX6_turns_137 (by decide) (fun c19 => ?_) (fun c19 => ?_)
    · have hw := hw.2 c19
      refine lv_iconst (v := 1) hx hb dX6_turns_151 (by decide) ?_
      refine lv_goto (tgt := 156) hx hb dX6_turns_152 (by decide) ?_
      exact W.zret (v := 1) hx hb hr rfl (fun t ht hW => ⟨⟨1, (Mo_stationX, Mo_stationY, upd Mo_stationZ p0.toNatClampNeg x17), rfl, hw, ⟨by rw [ht]; exact hP, va_K.moved hW.alike hK, hD⟩⟩, hS.F ht⟩) hS.2.2 dX6_turns_156
    · have hw := hw.1 c19
      refine lv_aload_n hx hb dX6_turns_140 rfl (lv_at hl 3 rfl) ?_
      refine va_get (D := D) (ci := 6) (v := .ref hMo_stationZ) (C := RX6) (T := TX6) (N := 32) hx hb hts inlX6 hown hK hP 0 rfl rfl 3 (by decide) (hts (.fieldLink RX6 20 "SquarePlanesModel" "stationZ" "[I") mw_7_11) (fun _ h9 => h9) rfl dX6_turns_141 ?_
      refine lv_iload_n hx hb dX6_turns_144 rfl (lv_at hl 4 rfl) ?_
      refine va_iald hx hb hK hP 4 0 rfl rfl hw.1 dX6_turns_145 ?_
      have hw := hw.2
      refine lv_iload hx hb dX6_turns_146 (lv_at hl 0 rfl) ?_
      refine lv_icmp_eq (tgt := 155) hx hb dX6_turns_148 (by decide) (fun c18 => ?_) (fun c18 => ?_)
      · have hw := hw.1 c18
        refine lv_iconst (v := 0) hx hb dX6_turns_155 (by decide) ?_
        exact W.zret (v := 0) hx hb hr rfl (fun t ht hW => ⟨⟨0, (Mo_stationX, Mo_stationY, upd Mo_stationZ p0.toNatClampNeg x17), rfl, hw, ⟨by rw [ht]; exact hP, va_K.moved hW.alike hK, hD⟩⟩, hS.F ht⟩) hS.2.2 dX6_turns_156
      · have hw := hw.2 c18
        refine lv_iconst (v := 1) hx hb dX6_turns_151 (by decide) ?_
        refine lv_goto (tgt := 156) hx hb dX6_turns_152 (by decide) ?_
        exact W.zret (v := 1) hx hb hr rfl (fun t ht hW => ⟨⟨1, (Mo_stationX, Mo_stationY, upd Mo_stationZ p0.toNatClampNeg x17), rfl, hw, ⟨by rw [ht]; exact hP, va_K.moved hW.alike hK, hD⟩⟩, hS.F ht⟩) hS.2.2 dX6_turns_156
set_option maxHeartbeats 4000000 in
set_option maxRecDepth 100000 in
theorem k_X6_square (l : Launch) (D : va_G) (cy : Nat → ClassId) (hMo hMo_isThere hMo_stationX hMo_stationY hMo_stationZ hMo_told hMo_weight hMo_poleX hMo_poleY hMo_poleZ hMo_lesser hMo_greater hMo_misfit hMo_nodal hMo_order hMo_placeOf hMo_unlikeX hMo_unlikeY hMo_unlikeZ hMo_farUp hMo_farDown hMo_axisOf : Nat) (Mo_isThere : Nat → Int32) (Mo_stationX : Nat → Int32) (Mo_stationY : Nat → Int32) (Mo_stationZ : Nat → Int32) (Mo_told : Nat → Int32) (Mo_weight : Nat → Int32) (Mo_size : Int32) (Mo_extra : Int32) (Mo_poles : Int32) (Mo_poleX : Nat → Int32) (Mo_poleY : Nat → Int32) (Mo_poleZ : Nat → Int32) (Mo_pairs : Int32) (Mo_lesser : Nat → Int32) (Mo_greater : Nat → Int32) (Mo_isKnown : Int32) (Mo_least : Int32) (Mo_kept : Int32) (Mo_misfit : Nat → Int32) (Mo_nodal : Nat → Int32) (Mo_order : Nat → Int32) (Mo_placeOf : Nat → Int32) (Mo_axisX : Int32) (Mo_axisY : Int32) (Mo_axisZ : Int32) (Mo_axes : Int32) (Mo_unlikeX : Nat → Int32) (Mo_unlikeY : Nat → Int32) (Mo_unlikeZ : Nat → Int32) (Mo_farUp : Nat → Int64) (Mo_farDown : Nat → Int64) (Mo_axisOf : Nat → Int32) (p0 : Int32) (sz : Nat) (Q : Int32 → Prop) (hw : wp_X6_square p0 Mo_unlikeX Mo_unlikeY Mo_unlikeZ Q) : Met l yX6_square (wA yX6_square cX6_square 2 (some .int)) { frames := 0, cells := 0, slots := 0, locals := 0 } (kPc [.ref hMo, .int p0] D cy (List.flatten [wMo cy hMo hMo_isThere hMo_stationX hMo_stationY hMo_stationZ hMo_told hMo_weight hMo_poleX hMo_poleY hMo_poleZ hMo_lesser hMo_greater hMo_misfit hMo_nodal hMo_order hMo_placeOf hMo_unlikeX hMo_unlikeY hMo_unlikeZ hMo_farUp hMo_farDown hMo_axisOf Mo_isThere Mo_stationX Mo_stationY Mo_stationZ Mo_told Mo_weight Mo_size Mo_extra Mo_poles Mo_poleX Mo_poleY Mo_poleZ Mo_pairs Mo_lesser Mo_greater Mo_isKnown Mo_least Mo_kept Mo_misfit Mo_nodal Mo_order Mo_placeOf Mo_axisX Mo_axisY Mo_axisZ Mo_axes Mo_unlikeX Mo_unlikeY Mo_unlikeZ Mo_farUp Mo_farDown Mo_axisOf]) sz) (kSi Q) 0 0 (fun _ => False) := by
  refine Met.ofW (cc := cX6_square) (maxL := 2) (ret := (some .int)) (by decide) rfl ?_
  intro p e s m args below meth c s₁ B hml hv
  obtain ⟨rfl, hsz, hN, hP, hK, hD0⟩ := hv
  have hx := B.exec
  have hb := B.bytes
  have hr := B.returns
  have hts0 := atoms_spec (ws := wA yX6_square cX6_square 2 (some .int)) B.pre
  have hts := fun w (h : w ∈ wsL_law) => hts0 w (List.mem_cons_of_mem _ h)
  have hown : s.vm.findClass RX6 = some m.cls := findClass_of_methodNamed B.named
  have hlocks := B.notSynchronized
  subst hsz
  have hD := hD0
  have hl := lv_entry ([.ref hMo, .int p0]) (n := 2) (Nat.le_of_ble_eq_true rfl)
  rw [lg_entry_eq]
  generalize (lg_sl ([.ref hMo, .int p0]) ++ List.replicate (2 - (lg_sl ([.ref hMo, .int p0])).length) Slot.unset).toArray = ls at hl ⊢
  have hl : lv_has ls 2 [(0, .ref hMo), (1, .int p0)] := hl
  unfold wp_X6_square at hw
  refine lv_aload_n hx hb dX6_square_0 rfl (lv_at hl 0 rfl) ?_
  refine va_get (D := D) (ci := 6) (v := .ref hMo_unlikeX) (C := RX6) (T := TX6) (N := 32) hx hb hts inlX6 hown hK hP 0 rfl rfl 26 (by decide) (hts (.fieldLink RX6 60 "SquarePlanesModel" "unlikeX" "[I") mw_8_0) (fun _ h9 => h9) rfl dX6_square_1 ?_
  refine lv_iload_n hx hb dX6_square_4 rfl (lv_at hl 1 rfl) ?_
  refine va_iald hx hb hK hP 16 0 rfl rfl hw.1 dX6_square_5 ?_
  have hw := hw.2
  refine lv_aload_n hx hb dX6_square_6 rfl (lv_at hl 0 rfl) ?_
  refine va_get (D := D) (ci := 6) (v := .ref hMo_unlikeX) (C := RX6) (T := TX6) (N := 32) hx hb hts inlX6 hown hK hP 0 rfl rfl 26 (by decide) (hts (.fieldLink RX6 60 "SquarePlanesModel" "unlikeX" "[I") mw_8_0) (fun _ h9 => h9) rfl dX6_square_7 ?_
  refine lv_iload_n hx hb dX6_square_10 rfl (lv_at hl 1 rfl) ?_
  refine va_iald hx hb hK hP 16 0 rfl rfl hw.1 dX6_square_11 ?_
  have hw := hw.2
  refine lv_imul hx hb dX6_square_12 ?_
  refine lv_aload_n hx hb dX6_square_13 rfl (lv_at hl 0 rfl) ?_
  refine va_get (D := D) (ci := 6) (v := .ref hMo_unlikeY) (C := RX6) (T := TX6) (N := 32) hx hb hts inlX6 hown hK hP 0 rfl rfl 27 (by decide) (hts (.fieldLink RX6 63 "SquarePlanesModel" "unlikeY" "[I") mw_8_1) (fun _ h9 => h9) rfl dX6_square_14 ?_
  refine lv_iload_n hx hb dX6_square_17 rfl (lv_at hl 1 rfl) ?_
  refine va_iald hx hb hK hP 17 0 rfl rfl hw.1 dX6_square_18 ?_
  have hw := hw.2
  refine lv_aload_n hx hb dX6_square_19 rfl (lv_at hl 0 rfl) ?_
  refine va_get (D := D) (ci := 6) (v := .ref hMo_unlikeY) (C := RX6) (T := TX6) (N := 32) hx hb hts inlX6 hown hK hP 0 rfl rfl 27 (by decide) (hts (.fieldLink RX6 63 "SquarePlanesModel" "unlikeY" "[I") mw_8_1) (fun _ h9 => h9) rfl dX6_square_20 ?_
  refine lv_iload_n hx hb dX6_square_23 rfl (lv_at hl 1 rfl) ?_
  refine va_iald hx hb hK hP 17 0 rfl rfl hw.1 dX6_square_24 ?_
  have hw := hw.2
  refine lv_imul hx hb dX6_square_25 ?_
  refine lv_iadd hx hb dX6_square_26 ?_
  refine lv_aload_n hx hb dX6_square_27 rfl (lv_at hl 0 rfl) ?_
  refine va_get (D := D) (ci := 6) (v := .ref hMo_unlikeZ) (C := RX6) (T := TX6) (N := 32) hx hb hts inlX6 hown hK hP 0 rfl rfl 28 (by decide) (hts (.fieldLink RX6 66 "SquarePlanesModel" "unlikeZ" "[I") mw_8_2) (fun _ h9 => h9) rfl dX6_square_28 ?_
  refine lv_iload_n hx hb dX6_square_31 rfl (lv_at hl 1 rfl) ?_
  refine va_iald hx hb hK hP 18 0 rfl rfl hw.1 dX6_square_32 ?_
  have hw := hw.2
  refine lv_aload_n hx hb dX6_square_33 rfl (lv_at hl 0 rfl) ?_
  refine va_get (D := D) (ci := 6) (v := .ref hMo_unlikeZ) (C := RX6) (T := TX6) (N := 32) hx hb hts inlX6 hown hK hP 0 rfl rfl 28 (by decide) (hts (.fieldLink RX6 66 "SquarePlanesModel" "unlikeZ" "[I") mw_8_2) (fun _ h9 => h9) rfl dX6_square_34 ?_
  refine lv_iload_n hx hb dX6_square_37 rfl (lv_at hl 1 rfl) ?_
  refine va_iald hx hb hK hP 18 0 rfl rfl hw.1 dX6_square_38 ?_
  have hw := hw.2
  refine lv_imul hx hb dX6_square_39 ?_
  refine lv_iadd hx hb dX6_square_40 ?_
  exact W.iret (v := (((Mo_unlikeX p0.toNatClampNeg) * (Mo_unlikeX p0.toNatClampNeg)) + ((Mo_unlikeY p0.toNatClampNeg) * (Mo_unlikeY p0.toNatClampNeg))) + ((Mo_unlikeZ p0.toNatClampNeg) * (Mo_unlikeZ p0.toNatClampNeg))) hx hb hr (fun t ht hW => ⟨(((Mo_unlikeX p0.toNatClampNeg) * (Mo_unlikeX p0.toNatClampNeg)) + ((Mo_unlikeY p0.toNatClampNeg) * (Mo_unlikeY p0.toNatClampNeg))) + ((Mo_unlikeZ p0.toNatClampNeg) * (Mo_unlikeZ p0.toNatClampNeg)), rfl, hw, ht⟩) (fun q h => by cases h) dX6_square_41
set_option maxHeartbeats 4000000 in
set_option maxRecDepth 100000 in
theorem k_X6_inLeastTerms (l : Launch) (D : va_G) (cy : Nat → ClassId) (p0 : Int64) (p1 : Int64) (p2 : Int32) (sz : Nat) (Q : Int64 → Prop) (hw : wp_X6_inLeastTerms p0 p1 p2 Q) : Met l yX6_inLeastTerms (wA yX6_inLeastTerms cX6_inLeastTerms 11 (some .long)) { frames := 0, cells := 0, slots := 0, locals := 0 } (kPc [.long p0, .long p1, .int p2] D cy (List.flatten ([] : List va_W)) sz) (kSl Q) 0 0 (fun _ => False) := by
  refine Met.ofW (cc := cX6_inLeastTerms) (maxL := 11) (ret := (some .long)) (by decide) rfl ?_
  intro p e s m args below meth c s₁ B hml hv
  obtain ⟨rfl, hsz, hN, hP, hK, hD0⟩ := hv
  have hx := B.exec
  have hb := B.bytes
  have hr := B.returns
  have hts0 := atoms_spec (ws := wA yX6_inLeastTerms cX6_inLeastTerms 11 (some .long)) B.pre
  have hts := fun w (h : w ∈ wsL_law) => hts0 w (List.mem_cons_of_mem _ h)
  have hown : s.vm.findClass RX6 = some m.cls := findClass_of_methodNamed B.named
  have hlocks := B.notSynchronized
  subst hsz
  have hD := hD0
  have hl := lv_entry ([.long p0, .long p1, .int p2]) (n := 11) (Nat.le_of_ble_eq_true rfl)
  rw [lg_entry_eq]
  generalize (lg_sl ([.long p0, .long p1, .int p2]) ++ List.replicate (11 - (lg_sl ([.long p0, .long p1, .int p2])).length) Slot.unset).toArray = ls at hl ⊢
  have hl : lv_has ls 11 [(0, .long p0), (2, .long p1), (4, .int p2)] := hl
  unfold wp_X6_inLeastTerms at hw
  refine lv_lload_n hx hb dX6_inLeastTerms_0 rfl (lv_at hl 0 rfl) ?_
  refine lv_lstore (lv' := [(5, .long p0), (0, .long p0), (2, .long p1), (4, .int p2)]) hx hb dX6_inLeastTerms_1 hl (by decide) rfl (fun ls hl => ?_)
  refine lv_lload_n hx hb dX6_inLeastTerms_3 rfl (lv_at hl 2 rfl) ?_
  refine lv_lstore (lv' := [(7, .long p1), (5, .long p0), (0, .long p0), (2, .long p1), (4, .int p2)]) hx hb dX6_inLeastTerms_4 hl (by decide) rfl (fun ls hl => ?_)
  obtain ⟨n6, hw⟩ := hw
  have kl6 : ∀ (K6_31 : Int64 → Int64 → Prop) (hk6_31 : ∀ (z5_6 : Int64) (z7_6 : Int64) (ls : Array Slot), K6_31 z5_6 z7_6 → lv_has ls 11 [(0, .long p0), (2, .long p1), (4, .int p2), (5, .long z5_6), (7, .long z7_6)] → W p l e (headSpec (wA yX6_inLeastTerms cX6_inLeastTerms 11 (some .long)) { frames := 0, cells := 0, slots := 0, locals := 0 }).room s m #[.long p0, .long p1, .int p2] below meth c s.heap [] 0 0 (MQ below (kSl Q) #[.long p0, .long p1, .int p2] s 0 0 (fun _ => False)) (F0 m 31 ls [])) (n : Nat) (z5_6 : Int64) (z7_6 : Int64) (ls : Array Slot), wp_X6_inLeastTerms_L6  K6_31 n z5_6 z7_6 → lv_has ls 11 [(0, .long p0), (2, .long p1), (4, .int p2), (5, .long z5_6), (7, .long z7_6)] → W p l e (headSpec (wA yX6_inLeastTerms cX6_inLeastTerms 11 (some .long)) { frames := 0, cells := 0, slots := 0, locals := 0 }).room s m #[.long p0, .long p1, .int p2] below meth c s.heap [] 0 0 (MQ below (kSl Q) #[.long p0, .long p1, .int p2] s 0 0 (fun _ => False)) (F0 m 6 ls []) := by
    intro K6_31 hk6_31 n
    induction n with
    | zero =>
      intro z5_6 z7_6 ls hw
      exact hw.elim
    | succ n ih6 =>
      intro z5_6 z7_6 ls hw hl
      unfold wp_X6_inLeastTerms_L6 at hw
      refine lv_lload hx hb dX6_inLeastTerms_6 (lv_at hl 4 rfl) ?_
      refine lv_lconst (v := 0) hx hb dX6_inLeastTerms_8 (by decide) ?_
      refine W.lcmp hx hb dX6_inLeastTerms_9 ?_
      refine lv_if_eq (tgt := 31) hx hb dX6_inLeastTerms_10 (by decide) (fun c2_6 => ?_) (fun c2_6 => ?_)
      · have hw := hw.1 c2_6
        exact hk6_31 z5_6 z7_6 ls hw (lv_sub hl [0, 1, 2, 3, 4] rfl)
      · have hw := hw.2 c2_6
        refine lv_lload hx hb dX6_inLeastTerms_13 (lv_at hl 3 rfl) ?_
        refine lv_lload hx hb dX6_inLeastTerms_15 (lv_at hl 4 rfl) ?_
        refine lv_lrem hx hb dX6_inLeastTerms_17 hw.1 ?_
        have hw := hw.2
        refine lv_topl (fun u1_6 eu1_6 => ?_)
        have hw := hw u1_6 eu1_6
        refine lv_lstore (lv' := [(9, .long u1_6), (0, .long p0), (2, .long p1), (4, .int p2), (5, .long z5_6), (7, .long z7_6)]) hx hb dX6_inLeastTerms_18 hl (by decide) rfl (fun ls hl => ?_)
        refine lv_lload hx hb dX6_inLeastTerms_20 (lv_at hl 5 rfl) ?_
        refine lv_lstore (lv' := [(5, .long z7_6), (9, .long u1_6), (0, .long p0), (2, .long p1), (4, .int p2), (7, .long z7_6)]) hx hb dX6_inLeastTerms_22 hl (by decide) rfl (fun ls hl => ?_)
        refine lv_lload hx hb dX6_inLeastTerms_24 (lv_at hl 1 rfl) ?_
        refine lv_lstore (lv' := [(7, .long u1_6), (5, .long z7_6), (9, .long u1_6), (0, .long p0), (2, .long p1), (4, .int p2)]) hx hb dX6_inLeastTerms_26 hl (by decide) rfl (fun ls hl => ?_)
        refine lv_goto (tgt := 6) hx hb dX6_inLeastTerms_28 (by decide) ?_
        exact ih6 z7_6 u1_6 ls hw (lv_sub hl [3, 4, 5, 1, 0] rfl)
  refine kl6 _ ?_ n6 p0 p1 ls hw (lv_sub hl [2, 3, 4, 1, 0] rfl)
  · intro z5_6 z7_6 ls hw hl
    refine lv_iload hx hb dX6_inLeastTerms_31 (lv_at hl 2 rfl) ?_
    refine lv_if_ne (tgt := 43) hx hb dX6_inLeastTerms_33 (by decide) (fun c1 => ?_) (fun c1 => ?_)
    · have hw := hw.2 c1
      refine lv_lload_n hx hb dX6_inLeastTerms_43 rfl (lv_at hl 1 rfl) ?_
      refine lv_lload hx hb dX6_inLeastTerms_44 (lv_at hl 3 rfl) ?_
      refine lv_ldiv hx hb dX6_inLeastTerms_46 hw.1 ?_
      have hw := hw.2
      exact W.lret (v := p1 / z5_6) hx hb hr (fun t ht hW => ⟨p1 / z5_6, rfl, hw, ht⟩) (fun q h => by cases h) dX6_inLeastTerms_47
    · have hw := hw.1 c1
      refine lv_lload_n hx hb dX6_inLeastTerms_36 rfl (lv_at hl 0 rfl) ?_
      refine lv_lload hx hb dX6_inLeastTerms_37 (lv_at hl 3 rfl) ?_
      refine lv_ldiv hx hb dX6_inLeastTerms_39 hw.1 ?_
      have hw := hw.2
      refine lv_goto (tgt := 47) hx hb dX6_inLeastTerms_40 (by decide) ?_
      exact W.lret (v := p0 / z5_6) hx hb hr (fun t ht hW => ⟨p0 / z5_6, rfl, hw, ht⟩) (fun q h => by cases h) dX6_inLeastTerms_47
set_option maxHeartbeats 4000000 in
set_option maxRecDepth 100000 in
theorem k_X6_weights (l : Launch) (D : va_G) (cy : Nat → ClassId) (hMo hMo_isThere hMo_stationX hMo_stationY hMo_stationZ hMo_told hMo_weight hMo_poleX hMo_poleY hMo_poleZ hMo_lesser hMo_greater hMo_misfit hMo_nodal hMo_order hMo_placeOf hMo_unlikeX hMo_unlikeY hMo_unlikeZ hMo_farUp hMo_farDown hMo_axisOf : Nat) (Mo_isThere : Nat → Int32) (Mo_stationX : Nat → Int32) (Mo_stationY : Nat → Int32) (Mo_stationZ : Nat → Int32) (Mo_told : Nat → Int32) (Mo_weight : Nat → Int32) (Mo_size : Int32) (Mo_extra : Int32) (Mo_poles : Int32) (Mo_poleX : Nat → Int32) (Mo_poleY : Nat → Int32) (Mo_poleZ : Nat → Int32) (Mo_pairs : Int32) (Mo_lesser : Nat → Int32) (Mo_greater : Nat → Int32) (Mo_isKnown : Int32) (Mo_least : Int32) (Mo_kept : Int32) (Mo_misfit : Nat → Int32) (Mo_nodal : Nat → Int32) (Mo_order : Nat → Int32) (Mo_placeOf : Nat → Int32) (Mo_axisX : Int32) (Mo_axisY : Int32) (Mo_axisZ : Int32) (Mo_axes : Int32) (Mo_unlikeX : Nat → Int32) (Mo_unlikeY : Nat → Int32) (Mo_unlikeZ : Nat → Int32) (Mo_farUp : Nat → Int64) (Mo_farDown : Nat → Int64) (Mo_axisOf : Nat → Int32) (sz : Nat) (Q : Int32 → Prop) (hw : wp_X6_weights Mo_isThere Mo_told Mo_weight Q) : Met l yX6_weights (wA yX6_weights cX6_weights 3 (some .int)) { frames := 0, cells := 0, slots := 0, locals := 0 } (kPc [.ref hMo] D cy (List.flatten [wMo cy hMo hMo_isThere hMo_stationX hMo_stationY hMo_stationZ hMo_told hMo_weight hMo_poleX hMo_poleY hMo_poleZ hMo_lesser hMo_greater hMo_misfit hMo_nodal hMo_order hMo_placeOf hMo_unlikeX hMo_unlikeY hMo_unlikeZ hMo_farUp hMo_farDown hMo_axisOf Mo_isThere Mo_stationX Mo_stationY Mo_stationZ Mo_told Mo_weight Mo_size Mo_extra Mo_poles Mo_poleX Mo_poleY Mo_poleZ Mo_pairs Mo_lesser Mo_greater Mo_isKnown Mo_least Mo_kept Mo_misfit Mo_nodal Mo_order Mo_placeOf Mo_axisX Mo_axisY Mo_axisZ Mo_axes Mo_unlikeX Mo_unlikeY Mo_unlikeZ Mo_farUp Mo_farDown Mo_axisOf]) sz) (kSi Q) 0 0 (fun _ => False) := by
  refine Met.ofW (cc := cX6_weights) (maxL := 3) (ret := (some .int)) (by decide) rfl ?_
  intro p e s m args below meth c s₁ B hml hv
  obtain ⟨rfl, hsz, hN, hP, hK, hD0⟩ := hv
  have hx := B.exec
  have hb := B.bytes
  have hr := B.returns
  have hts0 := atoms_spec (ws := wA yX6_weights cX6_weights 3 (some .int)) B.pre
  have hts := fun w (h : w ∈ wsL_law) => hts0 w (List.mem_cons_of_mem _ h)
  have hown : s.vm.findClass RX6 = some m.cls := findClass_of_methodNamed B.named
  have hlocks := B.notSynchronized
  subst hsz
  have hD := hD0
  have hl := lv_entry ([.ref hMo]) (n := 3) (Nat.le_of_ble_eq_true rfl)
  rw [lg_entry_eq]
  generalize (lg_sl ([.ref hMo]) ++ List.replicate (3 - (lg_sl ([.ref hMo])).length) Slot.unset).toArray = ls at hl ⊢
  have hl : lv_has ls 3 [(0, .ref hMo)] := hl
  unfold wp_X6_weights at hw
  refine lv_iconst (v := 0) hx hb dX6_weights_0 (by decide) ?_
  refine lv_istore_n (lv' := [(1, .int 0), (0, .ref hMo)]) hx hb dX6_weights_1 rfl hl (by decide) rfl (fun ls hl => ?_)
  refine lv_iconst (v := 0) hx hb dX6_weights_2 (by decide) ?_
  refine lv_istore_n (lv' := [(2, .int 0), (1, .int 0), (0, .ref hMo)]) hx hb dX6_weights_3 rfl hl (by decide) rfl (fun ls hl => ?_)
  obtain ⟨n4, hw⟩ := hw
  have kl4 : ∀ (K4_47 : Int32 → Int32 → Prop) (hk4_47 : ∀ (y1_4 : Int32) (y2_4 : Int32) (ls : Array Slot), K4_47 y1_4 y2_4 → lv_has ls 3 [(0, .ref hMo), (1, .int y1_4), (2, .int y2_4)] → W p l e (headSpec (wA yX6_weights cX6_weights 3 (some .int)) { frames := 0, cells := 0, slots := 0, locals := 0 }).room s m #[.ref hMo] below meth c s.heap [] 0 0 (MQ below (kSi Q) #[.ref hMo] s 0 0 (fun _ => False)) (F0 m 47 ls [])) (n : Nat) (y1_4 : Int32) (y2_4 : Int32) (ls : Array Slot), wp_X6_weights_L4 Mo_isThere Mo_told Mo_weight K4_47 n y1_4 y2_4 → lv_has ls 3 [(0, .ref hMo), (1, .int y1_4), (2, .int y2_4)] → W p l e (headSpec (wA yX6_weights cX6_weights 3 (some .int)) { frames := 0, cells := 0, slots := 0, locals := 0 }).room s m #[.ref hMo] below meth c s.heap [] 0 0 (MQ below (kSi Q) #[.ref hMo] s 0 0 (fun _ => False)) (F0 m 4 ls []) := by
    intro K4_47 hk4_47 n
    induction n with
    | zero =>
      intro y1_4 y2_4 ls hw
      exact hw.elim
    | succ n ih4 =>
      intro y1_4 y2_4 ls hw hl
      unfold wp_X6_weights_L4 at hw
      refine lv_iload_n hx hb dX6_weights_4 rfl (lv_at hl 2 rfl) ?_
      refine lv_bipush (v := 24) hx hb dX6_weights_5 (by decide) ?_
      refine lv_icmp_ge (tgt := 47) hx hb dX6_weights_7 (by decide) (fun c6_4 => ?_) (fun c6_4 => ?_)
      · have hw := hw.1 c6_4
        exact hk4_47 y1_4 y2_4 ls hw (lv_sub hl [0, 1, 2] rfl)
      · have hw := hw.2 c6_4
        refine lv_iload_n hx hb dX6_weights_10 rfl (lv_at hl 1 rfl) ?_
        refine lv_aload_n hx hb dX6_weights_11 rfl (lv_at hl 0 rfl) ?_
        refine va_get (D := D) (ci := 6) (v := .ref hMo_isThere) (C := RX6) (T := TX6) (N := 32) hx hb hts inlX6 hown hK hP 0 rfl rfl 0 (by decide) (hts (.fieldLink RX6 7 "SquarePlanesModel" "isThere" "[Z") mw_7_8) (fun _ h9 => h9) rfl dX6_weights_12 ?_
        refine lv_iload_n hx hb dX6_weights_15 rfl (lv_at hl 2 rfl) ?_
        refine va_zald hx hb hK hP 1 1 rfl rfl hw.1 dX6_weights_16 ?_
        have hw := hw.2
        refine lv_if_eq (tgt := 38) hx hb dX6_weights_17 (by decide) (fun c5_4 => ?_) (fun c5_4 => ?_)
        · have hw := hw.1 c5_4
          refine lv_iconst (v := 0) hx hb dX6_weights_38 (by decide) ?_
          refine lv_iadd hx hb dX6_weights_39 ?_
          refine lv_topi (fun x1_4 ex1_4 => ?_)
          have hw := hw x1_4 ex1_4
          refine lv_istore_n (lv' := [(1, .int x1_4), (0, .ref hMo), (2, .int y2_4)]) hx hb dX6_weights_40 rfl hl (by decide) rfl (fun ls hl => ?_)
          refine lv_iinc (v := y2_4 + 1) (lv' := [(2, .int (y2_4 + 1)), (1, .int x1_4), (0, .ref hMo)]) hx hb dX6_weights_41 hl (k := 2) rfl rfl (by decide) rfl (fun ls hl => ?_)
          refine lv_goto (tgt := 4) hx hb dX6_weights_44 (by decide) ?_
          exact ih4 x1_4 (y2_4 + 1) ls hw (lv_sub hl [2, 1, 0] rfl)
        · have hw := hw.2 c5_4
          refine lv_aload_n hx hb dX6_weights_20 rfl (lv_at hl 0 rfl) ?_
          refine va_get (D := D) (ci := 6) (v := .ref hMo_told) (C := RX6) (T := TX6) (N := 32) hx hb hts inlX6 hown hK hP 0 rfl rfl 4 (by decide) (hts (.fieldLink RX6 23 "SquarePlanesModel" "told" "[I") mw_7_12) (fun _ h9 => h9) rfl dX6_weights_21 ?_
          refine lv_iload_n hx hb dX6_weights_24 rfl (lv_at hl 2 rfl) ?_
          refine va_iald hx hb hK hP 5 0 rfl rfl hw.1 dX6_weights_25 ?_
          have hw := hw.2
          refine lv_if_eq (tgt := 38) hx hb dX6_weights_26 (by decide) (fun c4_4 => ?_) (fun c4_4 => ?_)
          · have hw := hw.1 c4_4
            refine lv_iconst (v := 0) hx hb dX6_weights_38 (by decide) ?_
            refine lv_iadd hx hb dX6_weights_39 ?_
            refine lv_topi (fun x2_4 ex2_4 => ?_)
            have hw := hw x2_4 ex2_4
            refine lv_istore_n (lv' := [(1, .int x2_4), (0, .ref hMo), (2, .int y2_4)]) hx hb dX6_weights_40 rfl hl (by decide) rfl (fun ls hl => ?_)
            refine lv_iinc (v := y2_4 + 1) (lv' := [(2, .int (y2_4 + 1)), (1, .int x2_4), (0, .ref hMo)]) hx hb dX6_weights_41 hl (k := 2) rfl rfl (by decide) rfl (fun ls hl => ?_)
            refine lv_goto (tgt := 4) hx hb dX6_weights_44 (by decide) ?_
            exact ih4 x2_4 (y2_4 + 1) ls hw (lv_sub hl [2, 1, 0] rfl)
          · have hw := hw.2 c4_4
            refine lv_aload_n hx hb dX6_weights_29 rfl (lv_at hl 0 rfl) ?_
            refine va_get (D := D) (ci := 6) (v := .ref hMo_weight) (C := RX6) (T := TX6) (N := 32) hx hb hts inlX6 hown hK hP 0 rfl rfl 5 (by decide) (hts (.fieldLink RX6 26 "SquarePlanesModel" "weight" "[I") mw_7_13) (fun _ h9 => h9) rfl dX6_weights_30 ?_
            refine lv_iload_n hx hb dX6_weights_33 rfl (lv_at hl 2 rfl) ?_
            refine va_iald hx hb hK hP 6 0 rfl rfl hw.1 dX6_weights_34 ?_
            have hw := hw.2
            refine lv_goto (tgt := 39) hx hb dX6_weights_35 (by decide) ?_
            refine lv_iadd hx hb dX6_weights_39 ?_
            refine lv_topi (fun x3_4 ex3_4 => ?_)
            have hw := hw x3_4 ex3_4
            refine lv_istore_n (lv' := [(1, .int x3_4), (0, .ref hMo), (2, .int y2_4)]) hx hb dX6_weights_40 rfl hl (by decide) rfl (fun ls hl => ?_)
            refine lv_iinc (v := y2_4 + 1) (lv' := [(2, .int (y2_4 + 1)), (1, .int x3_4), (0, .ref hMo)]) hx hb dX6_weights_41 hl (k := 2) rfl rfl (by decide) rfl (fun ls hl => ?_)
            refine lv_goto (tgt := 4) hx hb dX6_weights_44 (by decide) ?_
            exact ih4 x3_4 (y2_4 + 1) ls hw (lv_sub hl [2, 1, 0] rfl)
  refine kl4 _ ?_ n4 0 0 ls hw (lv_sub hl [2, 1, 0] rfl)
  · intro y1_4 y2_4 ls hw hl
    refine lv_iload_n hx hb dX6_weights_47 rfl (lv_at hl 1 rfl) ?_
    exact W.iret (v := y1_4) hx hb hr (fun t ht hW => ⟨y1_4, rfl, hw, ht⟩) (fun q h => by cases h) dX6_weights_48
