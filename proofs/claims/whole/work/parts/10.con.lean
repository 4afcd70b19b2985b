set_option maxHeartbeats 4000000 in
set_option maxRecDepth 100000 in
theorem k_X0_gather (l : Launch) (D : va_G) (cy : Nat → ClassId) (hRa hRa_misfits hRa_nodals hRa_order hRa_places hRa_counted hRa_begins hPl hBu hBu_isHeld hBu_axes hBu_firstSolutions hPl_lesser hPl_greater hPl_axisOf hPl_axisXs hPl_axisYs hPl_axisZs hPl_axisSquares hPl_poleSigns hPo ns nn na np nq : Nat) (Ra_misfits : Nat → Int32) (Ra_nodals : Nat → Int32) (Ra_order : Nat → Int32) (Ra_places : Nat → Int32) (Ra_keptCount : Int32) (Ra_least : Int32) (Ra_version : Int32) (Ra_counted : Nat → Int32) (Ra_begins : Nat → Int32) (Bu_count : Int32) (Bu_spreadUpper : Int32) (Bu_spreadLower : Int32) (Bu_centreSolution : Int32) (Bu_version : Int32) (Bu_isHeld : Nat → Int32) (Bu_axes : Nat → Int32) (Bu_firstSolutions : Nat → Int32) (Bu_farUpper : Int32) (Bu_farLower : Int32) (Pl_poleCount : Int32) (Pl_pairCount : Int32) (Pl_lesser : Nat → Int32) (Pl_greater : Nat → Int32) (Pl_axisOf : Nat → Int32) (Pl_axisXs : Nat → Int32) (Pl_axisYs : Nat → Int32) (Pl_axisZs : Nat → Int32) (Pl_axisSquares : Nat → Int32) (Pl_axisCount : Int32) (Pl_poleSigns : Nat → Int32) (sz : Nat) (Q : Int32 → (Nat → Int32) → (Nat → Int32) → (Nat → Int32) → Prop) (hw : wp_X0_gather ns nn na np nq Ra_order Ra_keptCount Bu_count Bu_isHeld Bu_axes Bu_firstSolutions Pl_axisOf Q) : Met l yX0_gather (wA yX0_gather cX0_gather 5 none) { frames := 0, cells := 0, slots := 0, locals := 0 } (kPc [.ref hBu, .ref hRa] D cy (List.flatten [wRa cy hRa hRa_misfits hRa_nodals hRa_order hRa_places hRa_counted hRa_begins hPl hBu ns nn Ra_misfits Ra_nodals Ra_order Ra_places Ra_keptCount Ra_least Ra_version Ra_counted Ra_begins, wBu cy hBu hBu_isHeld hBu_axes hBu_firstSolutions hPl na Bu_count Bu_spreadUpper Bu_spreadLower Bu_centreSolution Bu_version Bu_isHeld Bu_axes Bu_firstSolutions Bu_farUpper Bu_farLower, wPl cy hPl hPl_lesser hPl_greater hPl_axisOf hPl_axisXs hPl_axisYs hPl_axisZs hPl_axisSquares hPl_poleSigns hPo np nq Pl_poleCount Pl_pairCount Pl_lesser Pl_greater Pl_axisOf Pl_axisXs Pl_axisYs Pl_axisZs Pl_axisSquares Pl_axisCount Pl_poleSigns]) sz) (va_Qv (fun (u : Int32 × (Nat → Int32) × (Nat → Int32) × (Nat → Int32)) => Q u.1 u.2.1 u.2.2.1 u.2.2.2) (fun u t => kB D cy (va_A (List.flatten [wRa cy hRa hRa_misfits hRa_nodals hRa_order hRa_places hRa_counted hRa_begins hPl hBu ns nn Ra_misfits Ra_nodals Ra_order Ra_places Ra_keptCount Ra_least Ra_version Ra_counted Ra_begins, wBu cy hBu hBu_isHeld hBu_axes hBu_firstSolutions hPl na Bu_count Bu_spreadUpper Bu_spreadLower Bu_centreSolution Bu_version Bu_isHeld Bu_axes Bu_firstSolutions Bu_farUpper Bu_farLower, wPl cy hPl hPl_lesser hPl_greater hPl_axisOf hPl_axisXs hPl_axisYs hPl_axisZs hPl_axisSquares hPl_poleSigns hPo np nq Pl_poleCount Pl_pairCount Pl_lesser Pl_greater Pl_axisOf Pl_axisXs Pl_axisYs Pl_axisZs Pl_axisSquares Pl_axisCount Pl_poleSigns]) sz) (List.flatten [wRa cy hRa hRa_misfits hRa_nodals hRa_order hRa_places hRa_counted hRa_begins hPl hBu ns nn Ra_misfits Ra_nodals Ra_order Ra_places Ra_keptCount Ra_least Ra_version Ra_counted Ra_begins, wBu cy hBu hBu_isHeld hBu_axes hBu_firstSolutions hPl na u.1 Bu_spreadUpper Bu_spreadLower Bu_centreSolution Bu_version u.2.1 u.2.2.1 u.2.2.2 Bu_farUpper Bu_farLower, wPl cy hPl hPl_lesser hPl_greater hPl_axisOf hPl_axisXs hPl_axisYs hPl_axisZs hPl_axisSquares hPl_poleSigns hPo np nq Pl_poleCount Pl_pairCount Pl_lesser Pl_greater Pl_axisOf Pl_axisXs Pl_axisYs Pl_axisZs Pl_axisSquares Pl_axisCount Pl_poleSigns]) t) (va_A (List.flatten [wRa cy hRa hRa_misfits hRa_nodals hRa_order hRa_places hRa_counted hRa_begins hPl hBu ns nn Ra_misfits Ra_nodals Ra_order Ra_places Ra_keptCount Ra_least Ra_version Ra_counted Ra_begins, wBu cy hBu hBu_isHeld hBu_axes hBu_firstSolutions hPl na Bu_count Bu_spreadUpper Bu_spreadLower Bu_centreSolution Bu_version Bu_isHeld Bu_axes Bu_firstSolutions Bu_farUpper Bu_farLower, wPl cy hPl hPl_lesser hPl_greater hPl_axisOf hPl_axisXs hPl_axisYs hPl_axisZs hPl_axisSquares hPl_poleSigns hPo np nq Pl_poleCount Pl_pairCount Pl_lesser Pl_greater Pl_axisOf Pl_axisXs Pl_axisYs Pl_axisZs Pl_axisSquares Pl_axisCount Pl_poleSigns]) sz)) 0 0 (va_A (List.flatten [wRa cy hRa hRa_misfits hRa_nodals hRa_order hRa_places hRa_counted hRa_begins hPl hBu ns nn Ra_misfits Ra_nodals Ra_order Ra_places Ra_keptCount Ra_least Ra_version Ra_counted Ra_begins, wBu cy hBu hBu_isHeld hBu_axes hBu_firstSolutions hPl na Bu_count Bu_spreadUpper Bu_spreadLower Bu_centreSolution Bu_version Bu_isHeld Bu_axes Bu_firstSolutions Bu_farUpper Bu_farLower, wPl cy hPl hPl_lesser hPl_greater hPl_axisOf hPl_axisXs hPl_axisYs hPl_axisZs hPl_axisSquares hPl_poleSigns hPo np nq Pl_poleCount Pl_pairCount Pl_lesser Pl_greater Pl_axisOf Pl_axisXs Pl_axisYs Pl_axisZs Pl_axisSquares Pl_axisCount Pl_poleSigns]) sz) := by
  refine Met.ofW (cc := cX0_gather) (maxL := 5) (ret := none) (by decide) rfl ?_
  intro p e s m args below meth c s₁ B hml hv
  obtain ⟨rfl, hsz, hN, hP, hK, hD0⟩ := hv
  have hx := B.exec
  have hb := B.bytes
  have hr := B.returns
  have hts0 := atoms_spec (ws := wA yX0_gather cX0_gather 5 none) B.pre
  have hts := fun w (h : w ∈ wsL_law) => hts0 w (List.mem_cons_of_mem _ h)
  have hown : s.vm.findClass RX0 = some m.cls := findClass_of_methodNamed B.named
  have hlocks := B.notSynchronized
  subst hsz
  have hD := hD0.self (sz := s.heap.size)
  generalize hAe : va_A (List.flatten [wRa cy hRa hRa_misfits hRa_nodals hRa_order hRa_places hRa_counted hRa_begins hPl hBu ns nn Ra_misfits Ra_nodals Ra_order Ra_places Ra_keptCount Ra_least Ra_version Ra_counted Ra_begins, wBu cy hBu hBu_isHeld hBu_axes hBu_firstSolutions hPl na Bu_count Bu_spreadUpper Bu_spreadLower Bu_centreSolution Bu_version Bu_isHeld Bu_axes Bu_firstSolutions Bu_farUpper Bu_farLower, wPl cy hPl hPl_lesser hPl_greater hPl_axisOf hPl_axisXs hPl_axisYs hPl_axisZs hPl_axisSquares hPl_poleSigns hPo np nq Pl_poleCount Pl_pairCount Pl_lesser Pl_greater Pl_axisOf Pl_axisXs Pl_axisYs Pl_axisZs Pl_axisSquares Pl_axisCount Pl_poleSigns]) s.heap.size = A at hD ⊢
  have hA : ∀ q : Nat, s.heap.size ≤ q → A q := fun q h => by rw [← hAe]; exact Or.inr h
  have hS : va_S A s.heap s.heap [] := va_S.rf
  have hP : va_P D vwCl (List.flatten [wRa cy hRa hRa_misfits hRa_nodals hRa_order hRa_places hRa_counted hRa_begins hPl hBu ns nn Ra_misfits Ra_nodals Ra_order Ra_places Ra_keptCount Ra_least Ra_version Ra_counted Ra_begins, wBu cy hBu hBu_isHeld hBu_axes hBu_firstSolutions hPl na Bu_count Bu_spreadUpper Bu_spreadLower Bu_centreSolution Bu_version Bu_isHeld Bu_axes Bu_firstSolutions Bu_farUpper Bu_farLower, wPl cy hPl hPl_lesser hPl_greater hPl_axisOf hPl_axisXs hPl_axisYs hPl_axisZs hPl_axisSquares hPl_poleSigns hPo np nq Pl_poleCount Pl_pairCount Pl_lesser Pl_greater Pl_axisOf Pl_axisXs Pl_axisYs Pl_axisZs Pl_axisSquares Pl_axisCount Pl_poleSigns]) s.heap := hP
  have hl := lv_entry ([.ref hBu, .ref hRa]) (n := 5) (Nat.le_of_ble_eq_true rfl)
  rw [lg_entry_eq]
  generalize (lg_sl ([.ref hBu, .ref hRa]) ++ List.replicate (5 - (lg_sl ([.ref hBu, .ref hRa])).length) Slot.unset).toArray = ls at hl ⊢
  have hl : lv_has ls 5 [(0, .ref hBu), (1, .ref hRa)] := hl
  unfold wp_X0_gather at hw
  refine lv_aload_n hx hb dX0_gather_0 rfl (lv_at hl 0 rfl) ?_
  refine lv_iconst (v := 0) hx hb dX0_gather_1 (by decide) ?_
  refine va_put (D := D) (ci := 0) (v := .int 0) (ty := tyX0 1) (C := RX0) (T := TX0) (N := 11) hx hb hts inlX0 tyX0 tyX0_ok nmX0 hown hK hP hD hS 7 rfl rfl 1 (by decide) (hts (.fieldLink RX0 46 "SquarePlanes$Bundle" "count" "I") mw_26_3) (fun _ h9 => h9) rfl (tyX0_ok 1 (by decide)) rfl rfl (Nat.le_of_ble_eq_true rfl) dX0_gather_2 (fun H locs hP hD hS => ?_)
  have hP : va_P D vwCl (List.flatten [wRa cy hRa hRa_misfits hRa_nodals hRa_order hRa_places hRa_counted hRa_begins hPl hBu ns nn Ra_misfits Ra_nodals Ra_order Ra_places Ra_keptCount Ra_least Ra_version Ra_counted Ra_begins, wBu cy hBu hBu_isHeld hBu_axes hBu_firstSolutions hPl na 0 Bu_spreadUpper Bu_spreadLower Bu_centreSolution Bu_version Bu_isHeld Bu_axes Bu_firstSolutions Bu_farUpper Bu_farLower, wPl cy hPl hPl_lesser hPl_greater hPl_axisOf hPl_axisXs hPl_axisYs hPl_axisZs hPl_axisSquares hPl_poleSigns hPo np nq Pl_poleCount Pl_pairCount Pl_lesser Pl_greater Pl_axisOf Pl_axisXs Pl_axisYs Pl_axisZs Pl_axisSquares Pl_axisCount Pl_poleSigns]) H := hP
  have hD : va_D A (List.flatten [wRa cy hRa hRa_misfits hRa_nodals hRa_order hRa_places hRa_counted hRa_begins hPl hBu ns nn Ra_misfits Ra_nodals Ra_order Ra_places Ra_keptCount Ra_least Ra_version Ra_counted Ra_begins, wBu cy hBu hBu_isHeld hBu_axes hBu_firstSolutions hPl na 0 Bu_spreadUpper Bu_spreadLower Bu_centreSolution Bu_version Bu_isHeld Bu_axes Bu_firstSolutions Bu_farUpper Bu_farLower, wPl cy hPl hPl_lesser hPl_greater hPl_axisOf hPl_axisXs hPl_axisYs hPl_axisZs hPl_axisSquares hPl_poleSigns hPo np nq Pl_poleCount Pl_pairCount Pl_lesser Pl_greater Pl_axisOf Pl_axisXs Pl_axisYs Pl_axisZs Pl_axisSquares Pl_axisCount Pl_poleSigns]) := hD
  refine lv_iconst (v := 0) hx hb dX0_gather_5 (by decide) ?_
  refine lv_istore_n (lv' := [(2, .int 0), (0, .ref hBu), (1, .ref hRa)]) hx hb dX0_gather_6 rfl hl (by decide) rfl (fun ls hl => ?_)
  obtain ⟨n7, hw⟩ := hw
  have kl7 : ∀ (K7_29 : Int32 → (Nat → Int32) → Prop) (hk7_29 : ∀ (y2_7 : Int32) (Bu_isHeld_v_7 : Nat → Int32) (H : Heap) (locs : List Loc) (ls : Array Slot), K7_29 y2_7 Bu_isHeld_v_7 → va_P D vwCl (List.flatten [wRa cy hRa hRa_misfits hRa_nodals hRa_order hRa_places hRa_counted hRa_begins hPl hBu ns nn Ra_misfits Ra_nodals Ra_order Ra_places Ra_keptCount Ra_least Ra_version Ra_counted Ra_begins, wBu cy hBu hBu_isHeld hBu_axes hBu_firstSolutions hPl na 0 Bu_spreadUpper Bu_spreadLower Bu_centreSolution Bu_version Bu_isHeld_v_7 Bu_axes Bu_firstSolutions Bu_farUpper Bu_farLower, wPl cy hPl hPl_lesser hPl_greater hPl_axisOf hPl_axisXs hPl_axisYs hPl_axisZs hPl_axisSquares hPl_poleSigns hPo np nq Pl_poleCount Pl_pairCount Pl_lesser Pl_greater Pl_axisOf Pl_axisXs Pl_axisYs Pl_axisZs Pl_axisSquares Pl_axisCount Pl_poleSigns]) H → va_D A (List.flatten [wRa cy hRa hRa_misfits hRa_nodals hRa_order hRa_places hRa_counted hRa_begins hPl hBu ns nn Ra_misfits Ra_nodals Ra_order Ra_places Ra_keptCount Ra_least Ra_version Ra_counted Ra_begins, wBu cy hBu hBu_isHeld hBu_axes hBu_firstSolutions hPl na 0 Bu_spreadUpper Bu_spreadLower Bu_centreSolution Bu_version Bu_isHeld_v_7 Bu_axes Bu_firstSolutions Bu_farUpper Bu_farLower, wPl cy hPl hPl_lesser hPl_greater hPl_axisOf hPl_axisXs hPl_axisYs hPl_axisZs hPl_axisSquares hPl_poleSigns hPo np nq Pl_poleCount Pl_pairCount Pl_lesser Pl_greater Pl_axisOf Pl_axisXs Pl_axisYs Pl_axisZs Pl_axisSquares Pl_axisCount Pl_poleSigns]) → va_S A s.heap H locs → lv_has ls 5 [(0, .ref hBu), (1, .ref hRa), (2, .int y2_7)] → W p l e (headSpec (wA yX0_gather cX0_gather 5 none) { frames := 0, cells := 0, slots := 0, locals := 0 }).room s m #[.ref hBu, .ref hRa] below meth c H locs 0 0 (MQ below (va_Qv (fun (u : Int32 × (Nat → Int32) × (Nat → Int32) × (Nat → Int32)) => Q u.1 u.2.1 u.2.2.1 u.2.2.2) (fun u t => kB D cy A (List.flatten [wRa cy hRa hRa_misfits hRa_nodals hRa_order hRa_places hRa_counted hRa_begins hPl hBu ns nn Ra_misfits Ra_nodals Ra_order Ra_places Ra_keptCount Ra_least Ra_version Ra_counted Ra_begins, wBu cy hBu hBu_isHeld hBu_axes hBu_firstSolutions hPl na u.1 Bu_spreadUpper Bu_spreadLower Bu_centreSolution Bu_version u.2.1 u.2.2.1 u.2.2.2 Bu_farUpper Bu_farLower, wPl cy hPl hPl_lesser hPl_greater hPl_axisOf hPl_axisXs hPl_axisYs hPl_axisZs hPl_axisSquares hPl_poleSigns hPo np nq Pl_poleCount Pl_pairCount Pl_lesser Pl_greater Pl_axisOf Pl_axisXs Pl_axisYs Pl_axisZs Pl_axisSquares Pl_axisCount Pl_poleSigns]) t) A) #[.ref hBu, .ref hRa] s 0 0 A) (F0 m 29 ls [])) (n : Nat) (y2_7 : Int32) (Bu_isHeld_v_7 : Nat → Int32) (H : Heap) (locs : List Loc) (ls : Array Slot), wp_X0_gather_L7 na K7_29 n y2_7 Bu_isHeld_v_7 → va_P D vwCl (List.flatten [wRa cy hRa hRa_misfits hRa_nodals hRa_order hRa_places hRa_counted hRa_begins hPl hBu ns nn Ra_misfits Ra_nodals Ra_order Ra_places Ra_keptCount Ra_least Ra_version Ra_counted Ra_begins, wBu cy hBu hBu_isHeld hBu_axes hBu_firstSolutions hPl na 0 Bu_spreadUpper Bu_spreadLower Bu_centreSolution Bu_version Bu_isHeld_v_7 Bu_axes Bu_firstSolutions Bu_farUpper Bu_farLower, wPl cy hPl hPl_lesser hPl_greater hPl_axisOf hPl_axisXs hPl_axisYs hPl_axisZs hPl_axisSquares hPl_poleSigns hPo np nq Pl_poleCount Pl_pairCount Pl_lesser Pl_greater Pl_axisOf Pl_axisXs Pl_axisYs Pl_axisZs Pl_axisSquares Pl_axisCount Pl_poleSigns]) H → va_D A (List.flatten [wRa cy hRa hRa_misfits hRa_nodals hRa_order hRa_places hRa_counted hRa_begins hPl hBu ns nn Ra_misfits Ra_nodals Ra_order Ra_places Ra_keptCount Ra_least Ra_version Ra_counted Ra_begins, wBu cy hBu hBu_isHeld hBu_axes hBu_firstSolutions hPl na 0 Bu_spreadUpper Bu_spreadLower Bu_centreSolution Bu_version Bu_isHeld_v_7 Bu_axes Bu_firstSolutions Bu_farUpper Bu_farLower, wPl cy hPl hPl_lesser hPl_greater hPl_axisOf hPl_axisXs hPl_axisYs hPl_axisZs hPl_axisSquares hPl_poleSigns hPo np nq Pl_poleCount Pl_pairCount Pl_lesser Pl_greater Pl_axisOf Pl_axisXs Pl_axisYs Pl_axisZs Pl_axisSquares Pl_axisCount Pl_poleSigns]) → va_S A s.heap H locs → lv_has ls 5 [(0, .ref hBu), (1, .ref hRa), (2, .int y2_7)] → W p l e (headSpec (wA yX0_gather cX0_gather 5 none) { frames := 0, cells := 0, slots := 0, locals := 0 }).room s m #[.ref hBu, .ref hRa] below meth c H locs 0 0 (MQ below (va_Qv (fun (u : Int32 × (Nat → Int32) × (Nat → Int32) × (Nat → Int32)) => Q u.1 u.2.1 u.2.2.1 u.2.2.2) (fun u t => kB D cy A (List.flatten [wRa cy hRa hRa_misfits hRa_nodals hRa_order hRa_places hRa_counted hRa_begins hPl hBu ns nn Ra_misfits Ra_nodals Ra_order Ra_places Ra_keptCount Ra_least Ra_version Ra_counted Ra_begins, wBu cy hBu hBu_isHeld hBu_axes hBu_firstSolutions hPl na u.1 Bu_spreadUpper Bu_spreadLower Bu_centreSolution Bu_version u.2.1 u.2.2.1 u.2.2.2 Bu_farUpper Bu_farLower, wPl cy hPl hPl_lesser hPl_greater hPl_axisOf hPl_axisXs hPl_axisYs hPl_axisZs hPl_axisSquares hPl_poleSigns hPo np nq Pl_poleCount Pl_pairCount Pl_lesser Pl_greater Pl_axisOf Pl_axisXs Pl_axisYs Pl_axisZs Pl_axisSquares Pl_axisCount Pl_poleSigns]) t) A) #[.ref hBu, .ref hRa] s 0 0 A) (F0 m 7 ls []) := by
    intro K7_29 hk7_29 n
    induction n with
    | zero =>
      intro y2_7 Bu_isHeld_v_7 H locs ls hw
      exact hw.elim
    | succ n ih7 =>
      intro y2_7 Bu_isHeld_v_7 H locs ls hw hP hD hS hl
      unfold wp_X0_gather_L7 at hw
      refine lv_iload_n hx hb dX0_gather_7 rfl (lv_at hl 2 rfl) ?_
      refine lv_aload_n hx hb dX0_gather_8 rfl (lv_at hl 0 rfl) ?_
      refine va_get (D := D) (ci := 0) (v := .ref hBu_isHeld) (C := RX0) (T := TX0) (N := 11) hx hb hts inlX0 hown hK hP 7 rfl rfl 6 (by decide) (hts (.fieldLink RX0 28 "SquarePlanes$Bundle" "isHeld" "[Z") mw_6_21) (fun _ h9 => h9) rfl dX0_gather_9 ?_
      refine va_alen hx hb hK hP 8 1 rfl rfl rfl dX0_gather_12 ?_
      refine lv_icmp_ge (tgt := 29) hx hb dX0_gather_13 (by decide) (fun c1_7 => ?_) (fun c1_7 => ?_)
      · have hw := hw.1 c1_7
        exact hk7_29 y2_7 Bu_isHeld_v_7 _ _ ls hw hP hD hS (lv_sub hl [0, 1, 2] rfl)
      · have hw := hw.2 c1_7
        refine lv_aload_n hx hb dX0_gather_16 rfl (lv_at hl 0 rfl) ?_
        refine va_get (D := D) (ci := 0) (v := .ref hBu_isHeld) (C := RX0) (T := TX0) (N := 11) hx hb hts inlX0 hown hK hP 7 rfl rfl 6 (by decide) (hts (.fieldLink RX0 28 "SquarePlanes$Bundle" "isHeld" "[Z") mw_6_21) (fun _ h9 => h9) rfl dX0_gather_17 ?_
        refine lv_iload_n hx hb dX0_gather_20 rfl (lv_at hl 2 rfl) ?_
        refine lv_iconst (v := 0) hx hb dX0_gather_21 (by decide) ?_
        refine va_zast hx hb hK hP hD hS 8 1 rfl rfl hw.1 dX0_gather_22 (fun H locs hP hD hS => ?_)
        have hw := hw.2
        have hP : va_P D vwCl (List.flatten [wRa cy hRa hRa_misfits hRa_nodals hRa_order hRa_places hRa_counted hRa_begins hPl hBu ns nn Ra_misfits Ra_nodals Ra_order Ra_places Ra_keptCount Ra_least Ra_version Ra_counted Ra_begins, wBu cy hBu hBu_isHeld hBu_axes hBu_firstSolutions hPl na 0 Bu_spreadUpper Bu_spreadLower Bu_centreSolution Bu_version (upd Bu_isHeld_v_7 y2_7.toNatClampNeg 0) Bu_axes Bu_firstSolutions Bu_farUpper Bu_farLower, wPl cy hPl hPl_lesser hPl_greater hPl_axisOf hPl_axisXs hPl_axisYs hPl_axisZs hPl_axisSquares hPl_poleSigns hPo np nq Pl_poleCount Pl_pairCount Pl_lesser Pl_greater Pl_axisOf Pl_axisXs Pl_axisYs Pl_axisZs Pl_axisSquares Pl_axisCount Pl_poleSigns]) H := hP
        have hD : va_D A (List.flatten [wRa cy hRa hRa_misfits hRa_nodals hRa_order hRa_places hRa_counted hRa_begins hPl hBu ns nn Ra_misfits Ra_nodals Ra_order Ra_places Ra_keptCount Ra_least Ra_version Ra_counted Ra_begins, wBu cy hBu hBu_isHeld hBu_axes hBu_firstSolutions hPl na 0 Bu_spreadUpper Bu_spreadLower Bu_centreSolution Bu_version (upd Bu_isHeld_v_7 y2_7.toNatClampNeg 0) Bu_axes Bu_firstSolutions Bu_farUpper Bu_farLower, wPl cy hPl hPl_lesser hPl_greater hPl_axisOf hPl_axisXs hPl_axisYs hPl_axisZs hPl_axisSquares hPl_poleSigns hPo np nq Pl_poleCount Pl_pairCount Pl_lesser Pl_greater Pl_axisOf Pl_axisXs Pl_axisYs Pl_axisZs Pl_axisSquares Pl_axisCount Pl_poleSigns]) := hD
        refine lv_iinc (v := y2_7 + 1) (lv' := [(2, .int (y2_7 + 1)), (0, .ref hBu), (1, .ref hRa)]) hx hb dX0_gather_23 hl (k := 2) rfl rfl (by decide) rfl (fun ls hl => ?_)
        refine lv_goto (tgt := 7) hx hb dX0_gather_26 (by decide) ?_
        exact ih7 (y2_7 + 1) (upd Bu_isHeld_v_7 y2_7.toNatClampNeg 0) _ _ ls hw hP hD hS (lv_sub hl [1, 2, 0] rfl)
  refine kl7 _ ?_ n7 0 Bu_isHeld _ _ ls hw hP hD hS (lv_sub hl [1, 2, 0] rfl)
  · intro y2_7 Bu_isHeld_v_7 H locs ls hw hP hD hS hl
    refine lv_iconst (v := 0) hx hb dX0_gather_29 (by decide) ?_
    refine lv_istore_n (lv' := [(2, .int 0), (0, .ref hBu), (1, .ref hRa)]) hx hb dX0_gather_30 rfl hl (by decide) rfl (fun ls hl => ?_)
    obtain ⟨n31, hw⟩ := hw
    have kl31 : ∀ (K31_126 : Int32 → Int32 → (Nat → Int32) → (Nat → Int32) → (Nat → Int32) → Prop) (hk31_126 : ∀ (y2_31 : Int32) (Bu_count_v_31 : Int32) (Bu_isHeld_v_31 : Nat → Int32) (Bu_axes_v_31 : Nat → Int32) (Bu_firstSolutions_v_31 : Nat → Int32) (H : Heap) (locs : List Loc) (ls : Array Slot), K31_126 y2_31 Bu_count_v_31 Bu_isHeld_v_31 Bu_axes_v_31 Bu_firstSolutions_v_31 → va_P D vwCl (List.flatten [wRa cy hRa hRa_misfits hRa_nodals hRa_order hRa_places hRa_counted hRa_begins hPl hBu ns nn Ra_misfits Ra_nodals Ra_order Ra_places Ra_keptCount Ra_least Ra_version Ra_counted Ra_begins, wBu cy hBu hBu_isHeld hBu_axes hBu_firstSolutions hPl na Bu_count_v_31 Bu_spreadUpper Bu_spreadLower Bu_centreSolution Bu_version Bu_isHeld_v_31 Bu_axes_v_31 Bu_firstSolutions_v_31 Bu_farUpper Bu_farLower, wPl cy hPl hPl_lesser hPl_greater hPl_axisOf hPl_axisXs hPl_axisYs hPl_axisZs hPl_axisSquares hPl_poleSigns hPo np nq Pl_poleCount Pl_pairCount Pl_lesser Pl_greater Pl_axisOf Pl_axisXs Pl_axisYs Pl_axisZs Pl_axisSquares Pl_axisCount Pl_poleSigns]) H → va_D A (List.flatten [wRa cy hRa hRa_misfits hRa_nodals hRa_order hRa_places hRa_counted hRa_begins hPl hBu ns nn Ra_misfits Ra_nodals Ra_order Ra_places Ra_keptCount Ra_least Ra_version Ra_counted Ra_begins, wBu cy hBu hBu_isHeld hBu_axes hBu_firstSolutions hPl na Bu_count_v_31 Bu_spreadUpper Bu_spreadLower Bu_centreSolution Bu_version Bu_isHeld_v_31 Bu_axes_v_31 Bu_firstSolutions_v_31 Bu_farUpper Bu_farLower, wPl cy hPl hPl_lesser hPl_greater hPl_axisOf hPl_axisXs hPl_axisYs hPl_axisZs hPl_axisSquares hPl_poleSigns hPo np nq Pl_poleCount Pl_pairCount Pl_lesser Pl_greater Pl_axisOf Pl_axisXs Pl_axisYs Pl_axisZs Pl_axisSquares Pl_axisCount Pl_poleSigns]) → va_S A s.heap H locs → lv_has ls 5 [(0, .ref hBu), (1, .ref hRa), (2, .int y2_31)] → W p l e (headSpec (wA yX0_gather cX0_gather 5 none) { frames := 0, cells := 0, slots := 0, locals := 0 }).room s m #[.ref hBu, .ref hRa] below meth c H locs 0 0 (MQ below (va_Qv (fun (u : Int32 × (Nat → Int32) × (Nat → Int32) × (Nat → Int32)) => Q u.1 u.2.1 u.2.2.1 u.2.2.2) (fun u t => kB D cy A (List.flatten [wRa cy hRa hRa_misfits hRa_nodals hRa_order hRa_places hRa_counted hRa_begins hPl hBu ns nn Ra_misfits Ra_nodals Ra_order Ra_places Ra_keptCount Ra_least Ra_version Ra_counted Ra_begins, wBu cy hBu hBu_isHeld hBu_axes hBu_firstSolutions hPl na u.1 Bu_spreadUpper Bu_spreadLower Bu_centreSolution Bu_version u.2.1 u.2.2.1 u.2.2.2 Bu_farUpper Bu_farLower, wPl cy hPl hPl_lesser hPl_greater hPl_axisOf hPl_axisXs hPl_axisYs hPl_axisZs hPl_axisSquares hPl_poleSigns hPo np nq Pl_poleCount Pl_pairCount Pl_lesser Pl_greater Pl_axisOf Pl_axisXs Pl_axisYs Pl_axisZs Pl_axisSquares Pl_axisCount Pl_poleSigns]) t) A) #[.ref hBu, .ref hRa] s 0 0 A) (F0 m 126 ls [])) (n : Nat) (y2_31 : Int32) (Bu_count_v_31 : Int32) (Bu_isHeld_v_31 : Nat → Int32) (Bu_axes_v_31 : Nat → Int32) (Bu_firstSolutions_v_31 : Nat → Int32) (H : Heap) (locs : List Loc) (ls : Array Slot), wp_X0_gather_L31 ns na np Ra_order Ra_keptCount Pl_axisOf K31_126 n y2_31 Bu_count_v_31 Bu_isHeld_v_31 Bu_axes_v_31 Bu_firstSolutions_v_31 → va_P D vwCl (List.flatten [wRa cy hRa hRa_misfits hRa_nodals hRa_order hRa_places hRa_counted hRa_begins hPl hBu ns nn Ra_misfits Ra_nodals Ra_order Ra_places Ra_keptCount Ra_least Ra_version Ra_counted Ra_begins, wBu cy hBu hBu_isHeld hBu_axes hBu_firstSolutions hPl na Bu_count_v_31 Bu_spreadUpper Bu_spreadLower Bu_centreSolution Bu_version Bu_isHeld_v_31 Bu_axes_v_31 Bu_firstSolutions_v_31 Bu_farUpper Bu_farLower, wPl cy hPl hPl_lesser hPl_greater hPl_axisOf hPl_axisXs hPl_axisYs hPl_axisZs hPl_axisSquares hPl_poleSigns hPo np nq Pl_poleCount Pl_pairCount Pl_lesser Pl_greater Pl_axisOf Pl_axisXs Pl_axisYs Pl_axisZs Pl_axisSquares Pl_axisCount Pl_poleSigns]) H → va_D A (List.flatten [wRa cy hRa hRa_misfits hRa_nodals hRa_order hRa_places hRa_counted hRa_begins hPl hBu ns nn Ra_misfits Ra_nodals Ra_order Ra_places Ra_keptCount Ra_least Ra_version Ra_counted Ra_begins, wBu cy hBu hBu_isHeld hBu_axes hBu_firstSolutions hPl na Bu_count_v_31 Bu_spreadUpper Bu_spreadLower Bu_centreSolution Bu_version Bu_isHeld_v_31 Bu_axes_v_31 Bu_firstSolutions_v_31 Bu_farUpper Bu_farLower, wPl cy hPl hPl_lesser hPl_greater hPl_axisOf hPl_axisXs hPl_axisYs hPl_axisZs hPl_axisSquares hPl_poleSigns hPo np nq Pl_poleCount Pl_pairCount Pl_lesser Pl_greater Pl_axisOf Pl_axisXs Pl_axisYs Pl_axisZs Pl_axisSquares Pl_axisCount Pl_poleSigns]) → va_S A s.heap H locs → lv_has ls 5 [(0, .ref hBu), (1, .ref hRa), (2, .int y2_31)] → W p l e (headSpec (wA yX0_gather cX0_gather 5 none) { frames := 0, cells := 0, slots := 0, locals := 0 }).room s m #[.ref hBu, .ref hRa] below meth c H locs 0 0 (MQ below (va_Qv (fun (u : Int32 × (Nat → Int32) × (Nat → Int32) × (Nat → Int32)) => Q u.1 u.2.1 u.2.2.1 u.2.2.2) (fun u t => kB D cy A (List.flatten [wRa cy hRa hRa_misfits hRa_nodals hRa_order hRa_places hRa_counted hRa_begins hPl hBu ns nn Ra_misfits Ra_nodals Ra_order Ra_places Ra_keptCount Ra_least Ra_version Ra_counted Ra_begins, wBu cy hBu hBu_isHeld hBu_axes hBu_firstSolutions hPl na u.1 Bu_spreadUpper Bu_spreadLower Bu_centreSolution Bu_version u.2.1 u.2.2.1 u.2.2.2 Bu_farUpper Bu_farLower, wPl cy hPl hPl_lesser hPl_greater hPl_axisOf hPl_axisXs hPl_axisYs hPl_axisZs hPl_axisSquares hPl_poleSigns hPo np nq Pl_poleCount Pl_pairCount Pl_lesser Pl_greater Pl_axisOf Pl_axisXs Pl_axisYs Pl_axisZs Pl_axisSquares Pl_axisCount Pl_poleSigns]) t) A) #[.ref hBu, .ref hRa] s 0 0 A) (F0 m 31 ls []) := by
      intro K31_126 hk31_126 n
      induction n with
      | zero =>
        intro y2_31 Bu_count_v_31 Bu_isHeld_v_31 Bu_axes_v_31 Bu_firstSolutions_v_31 H locs ls hw
        exact hw.elim
      | succ n ih31 =>
        intro y2_31 Bu_count_v_31 Bu_isHeld_v_31 Bu_axes_v_31 Bu_firstSolutions_v_31 H locs ls hw hP hD hS hl
        unfold wp_X0_gather_L31 at hw
        refine lv_iload_n hx hb dX0_gather_31 rfl (lv_at hl 2 rfl) ?_
        refine lv_aload_n hx hb dX0_gather_32 rfl (lv_at hl 1 rfl) ?_
        refine va_get (D := D) (ci := 3) (v := .int Ra_keptCount) (C := RX3) (T := TX3) (N := 11) hx hb hts inlX3 hown hK hP 0 rfl rfl 6 (by decide) (hts (.fieldLink RX0 65 "SquarePlanes$Ranking" "keptCount" "I") mw_26_10) (fun _ h9 => h9) rfl dX0_gather_33 ?_
        refine lv_icmp_ge (tgt := 126) hx hb dX0_gather_36 (by decide) (fun c6_31 => ?_) (fun c6_31 => ?_)
        · have hw := hw.1 c6_31
          exact hk31_126 y2_31 Bu_count_v_31 Bu_isHeld_v_31 Bu_axes_v_31 Bu_firstSolutions_v_31 _ _ ls hw hP hD hS (lv_sub hl [0, 1, 2] rfl)
        · have hw := hw.2 c6_31
          refine lv_aload_n hx hb dX0_gather_39 rfl (lv_at hl 1 rfl) ?_
          refine va_get (D := D) (ci := 3) (v := .ref hRa_order) (C := RX3) (T := TX3) (N := 11) hx hb hts inlX3 hown hK hP 0 rfl rfl 4 (by decide) (hts (.fieldLink RX0 70 "SquarePlanes$Ranking" "order" "[I") mw_26_11) (fun _ h9 => h9) rfl dX0_gather_40 ?_
          refine lv_iload_n hx hb dX0_gather_43 rfl (lv_at hl 2 rfl) ?_
          refine va_iald hx hb hK hP 3 0 rfl rfl hw.1 dX0_gather_44 ?_
          have hw := hw.2
          refine lv_topi (fun x1_31 ex1_31 => ?_)
          have hw := hw x1_31 ex1_31
          refine lv_istore_n (lv' := [(3, .int x1_31), (0, .ref hBu), (1, .ref hRa), (2, .int y2_31)]) hx hb dX0_gather_45 rfl hl (by decide) rfl (fun ls hl => ?_)
          refine lv_aload_n hx hb dX0_gather_46 rfl (lv_at hl 1 rfl) ?_
          refine va_get (D := D) (ci := 0) (v := .ref hPl) (C := RX0) (T := TX0) (N := 11) hx hb hts inlX0 hown hK hP 7 rfl rfl 0 (by decide) (hts (.fieldLink RX0 19 "SquarePlanes$Bundle" "planes" "LSquarePlanes$Planes;") mw_6_19) (fun _ h9 => h9) rfl dX0_gather_47 ?_
          refine va_get (D := D) (ci := 1) (v := .ref hPl_axisOf) (C := RX1) (T := TX1) (N := 12) hx hb hts inlX1 hown hK hP 11 rfl rfl 5 (by decide) (hts (.fieldLink RX0 73 "SquarePlanes$Planes" "axisOf" "[I") mw_26_12) (fun _ h9 => h9) rfl dX0_gather_50 ?_
          refine lv_iload_n hx hb dX0_gather_53 rfl (lv_at hl 0 rfl) ?_
          refine lv_iconst (v := 2) hx hb dX0_gather_54 (by decide) ?_
          refine lv_idiv hx hb dX0_gather_55 (by decide) ?_
          refine va_iald hx hb hK hP 14 0 rfl rfl hw.1 dX0_gather_56 ?_
          have hw := hw.2
          refine lv_topi (fun x2_31 ex2_31 => ?_)
          have hw := hw x2_31 ex2_31
          refine lv_istore (lv' := [(4, .int x2_31), (3, .int x1_31), (0, .ref hBu), (1, .ref hRa), (2, .int y2_31)]) hx hb dX0_gather_57 hl (by decide) rfl (fun ls hl => ?_)
          refine lv_aload_n hx hb dX0_gather_59 rfl (lv_at hl 2 rfl) ?_
          refine va_get (D := D) (ci := 0) (v := .ref hBu_isHeld) (C := RX0) (T := TX0) (N := 11) hx hb hts inlX0 hown hK hP 7 rfl rfl 6 (by decide) (hts (.fieldLink RX0 28 "SquarePlanes$Bundle" "isHeld" "[Z") mw_6_21) (fun _ h9 => h9) rfl dX0_gather_60 ?_
          refine lv_iload hx hb dX0_gather_63 (lv_at hl 0 rfl) ?_
          refine va_zald hx hb hK hP 8 1 rfl rfl hw.1 dX0_gather_65 ?_
          have hw := hw.2
          refine lv_if_ne (tgt := 120) hx hb dX0_gather_66 (by decide) (fun c5_31 => ?_) (fun c5_31 => ?_)
          · have hw := hw.2 c5_31
            refine lv_iinc (v := y2_31 + 1) (lv' := [(2, .int (y2_31 + 1)), (4, .int x2_31), (3, .int x1_31), (0, .ref hBu), (1, .ref hRa)]) hx hb dX0_gather_120 hl (k := 4) rfl rfl (by decide) rfl (fun ls hl => ?_)
            refine lv_goto (tgt := 31) hx hb dX0_gather_123 (by decide) ?_
            exact ih31 (y2_31 + 1) Bu_count_v_31 Bu_isHeld_v_31 Bu_axes_v_31 Bu_firstSolutions_v_31 _ _ ls hw hP hD hS (lv_sub hl [3, 4, 0] rfl)
          · have hw := hw.1 c5_31
            refine lv_aload_n hx hb dX0_gather_69 rfl (lv_at hl 2 rfl) ?_
            refine va_get (D := D) (ci := 0) (v := .int Bu_count_v_31) (C := RX0) (T := TX0) (N := 11) hx hb hts inlX0 hown hK hP 7 rfl rfl 1 (by decide) (hts (.fieldLink RX0 46 "SquarePlanes$Bundle" "count" "I") mw_26_3) (fun _ h9 => h9) rfl dX0_gather_70 ?_
            refine lv_aload_n hx hb dX0_gather_73 rfl (lv_at hl 2 rfl) ?_
            refine va_get (D := D) (ci := 0) (v := .ref hBu_axes) (C := RX0) (T := TX0) (N := 11) hx hb hts inlX0 hown hK hP 7 rfl rfl 7 (by decide) (hts (.fieldLink RX0 32 "SquarePlanes$Bundle" "axes" "[I") mw_6_22) (fun _ h9 => h9) rfl dX0_gather_74 ?_
            refine va_alen hx hb hK hP 9 0 rfl rfl rfl dX0_gather_77 ?_
            refine lv_icmp_ge (tgt := 120) hx hb dX0_gather_78 (by decide) (fun c4_31 => ?_) (fun c4_31 => ?_)
            · have hw := hw.1 c4_31
              refine lv_iinc (v := y2_31 + 1) (lv' := [(2, .int (y2_31 + 1)), (4, .int x2_31), (3, .int x1_31), (0, .ref hBu), (1, .ref hRa)]) hx hb dX0_gather_120 hl (k := 4) rfl rfl (by decide) rfl (fun ls hl => ?_)
              refine lv_goto (tgt := 31) hx hb dX0_gather_123 (by decide) ?_
              exact ih31 (y2_31 + 1) Bu_count_v_31 Bu_isHeld_v_31 Bu_axes_v_31 Bu_firstSolutions_v_31 _ _ ls hw hP hD hS (lv_sub hl [3, 4, 0] rfl)
            · have hw := hw.2 c4_31
              refine lv_aload_n hx hb dX0_gather_81 rfl (lv_at hl 2 rfl) ?_
              refine va_get (D := D) (ci := 0) (v := .ref hBu_isHeld) (C := RX0) (T := TX0) (N := 11) hx hb hts inlX0 hown hK hP 7 rfl rfl 6 (by decide) (hts (.fieldLink RX0 28 "SquarePlanes$Bundle" "isHeld" "[Z") mw_6_21) (fun _ h9 => h9) rfl dX0_gather_82 ?_
              refine lv_iload hx hb dX0_gather_85 (lv_at hl 0 rfl) ?_
              refine lv_iconst (v := 1) hx hb dX0_gather_87 (by decide) ?_
              refine va_zast hx hb hK hP hD hS 8 1 rfl rfl hw.1 dX0_gather_88 (fun H locs hP hD hS => ?_)
              have hw := hw.2
              have hP : va_P D vwCl (List.flatten [wRa cy hRa hRa_misfits hRa_nodals hRa_order hRa_places hRa_counted hRa_begins hPl hBu ns nn Ra_misfits Ra_nodals Ra_order Ra_places Ra_keptCount Ra_least Ra_version Ra_counted Ra_begins, wBu cy hBu hBu_isHeld hBu_axes hBu_firstSolutions hPl na Bu_count_v_31 Bu_spreadUpper Bu_spreadLower Bu_centreSolution Bu_version (upd Bu_isHeld_v_31 x2_31.toNatClampNeg 1) Bu_axes_v_31 Bu_firstSolutions_v_31 Bu_farUpper Bu_farLower, wPl cy hPl hPl_lesser hPl_greater hPl_axisOf hPl_axisXs hPl_axisYs hPl_axisZs hPl_axisSquares hPl_poleSigns hPo np nq Pl_poleCount Pl_pairCount Pl_lesser Pl_greater Pl_axisOf Pl_axisXs Pl_axisYs Pl_axisZs Pl_axisSquares Pl_axisCount Pl_poleSigns]) H := hP
              have hD : va_D A (List.flatten [wRa cy hRa hRa_misfits hRa_nodals hRa_order hRa_places hRa_counted hRa_begins hPl hBu ns nn Ra_misfits Ra_nodals Ra_order Ra_places Ra_keptCount Ra_least Ra_version Ra_counted Ra_begins, wBu cy hBu hBu_isHeld hBu_axes hBu_firstSolutions hPl na Bu_count_v_31 Bu_spreadUpper Bu_spreadLower Bu_centreSolution Bu_version (upd Bu_isHeld_v_31 x2_31.toNatClampNeg 1) Bu_axes_v_31 Bu_firstSolutions_v_31 Bu_farUpper Bu_farLower, wPl cy hPl hPl_lesser hPl_greater hPl_axisOf hPl_axisXs hPl_axisYs hPl_axisZs hPl_axisSquares hPl_poleSigns hPo np nq Pl_poleCount Pl_pairCount Pl_lesser Pl_greater Pl_axisOf Pl_axisXs Pl_axisYs Pl_axisZs Pl_axisSquares Pl_axisCount Pl_poleSigns]) := hD
              refine lv_aload_n hx hb dX0_gather_89 rfl (lv_at hl 2 rfl) ?_
              refine va_get (D := D) (ci := 0) (v := .ref hBu_axes) (C := RX0) (T := TX0) (N := 11) hx hb hts inlX0 hown hK hP 7 rfl rfl 7 (by decide) (hts (.fieldLink RX0 32 "SquarePlanes$Bundle" "axes" "[I") mw_6_22) (fun _ h9 => h9) rfl dX0_gather_90 ?_
              refine lv_aload_n hx hb dX0_gather_93 rfl (lv_at hl 2 rfl) ?_
              refine va_get (D := D) (ci := 0) (v := .int Bu_count_v_31) (C := RX0) (T := TX0) (N := 11) hx hb hts inlX0 hown hK hP 7 rfl rfl 1 (by decide) (hts (.fieldLink RX0 46 "SquarePlanes$Bundle" "count" "I") mw_26_3) (fun _ h9 => h9) rfl dX0_gather_94 ?_
              refine lv_iload hx hb dX0_gather_97 (lv_at hl 0 rfl) ?_
              refine va_iast hx hb hK hP hD hS 9 0 rfl rfl hw.1 dX0_gather_99 (fun H locs hP hD hS => ?_)
              have hw := hw.2
              have hP : va_P D vwCl (List.flatten [wRa cy hRa hRa_misfits hRa_nodals hRa_order hRa_places hRa_counted hRa_begins hPl hBu ns nn Ra_misfits Ra_nodals Ra_order Ra_places Ra_keptCount Ra_least Ra_version Ra_counted Ra_begins, wBu cy hBu hBu_isHeld hBu_axes hBu_firstSolutions hPl na Bu_count_v_31 Bu_spreadUpper Bu_spreadLower Bu_centreSolution Bu_version (upd Bu_isHeld_v_31 x2_31.toNatClampNeg 1) (upd Bu_axes_v_31 Bu_count_v_31.toNatClampNeg x2_31) Bu_firstSolutions_v_31 Bu_farUpper Bu_farLower, wPl cy hPl hPl_lesser hPl_greater hPl_axisOf hPl_axisXs hPl_axisYs hPl_axisZs hPl_axisSquares hPl_poleSigns hPo np nq Pl_poleCount Pl_pairCount Pl_lesser Pl_greater Pl_axisOf Pl_axisXs Pl_axisYs Pl_axisZs Pl_axisSquares Pl_axisCount Pl_poleSigns]) H := hP
              have hD : va_D A (List.flatten [wRa cy hRa hRa_misfits hRa_nodals hRa_order hRa_places hRa_counted hRa_begins hPl hBu ns nn Ra_misfits Ra_nodals Ra_order Ra_places Ra_keptCount Ra_least Ra_version Ra_counted Ra_begins, wBu cy hBu hBu_isHeld hBu_axes hBu_firstSolutions hPl na Bu_count_v_31 Bu_spreadUpper Bu_spreadLower Bu_centreSolution Bu_version (upd Bu_isHeld_v_31 x2_31.toNatClampNeg 1) (upd Bu_axes_v_31 Bu_count_v_31.toNatClampNeg x2_31) Bu_firstSolutions_v_31 Bu_farUpper Bu_farLower, wPl cy hPl hPl_lesser hPl_greater hPl_axisOf hPl_axisXs hPl_axisYs hPl_axisZs hPl_axisSquares hPl_poleSigns hPo np nq Pl_poleCount Pl_pairCount Pl_lesser Pl_greater Pl_axisOf Pl_axisXs Pl_axisYs Pl_axisZs Pl_axisSquares Pl_axisCount Pl_poleSigns]) := hD
              refine lv_aload_n hx hb dX0_gather_100 rfl (lv_at hl 2 rfl) ?_
              refine va_get (D := D) (ci := 0) (v := .ref hBu_firstSolutions) (C := RX0) (T := TX0) (N := 11) hx hb hts inlX0 hown hK hP 7 rfl rfl 8 (by decide) (hts (.fieldLink RX0 36 "SquarePlanes$Bundle" "firstSolutions" "[I") mw_6_23) (fun _ h9 => h9) rfl dX0_gather_101 ?_
              refine lv_aload_n hx hb dX0_gather_104 rfl (lv_at hl 2 rfl) ?_
              refine va_get (D := D) (ci := 0) (v := .int Bu_count_v_31) (C := RX0) (T := TX0) (N := 11) hx hb hts inlX0 hown hK hP 7 rfl rfl 1 (by decide) (hts (.fieldLink RX0 46 "SquarePlanes$Bundle" "count" "I") mw_26_3) (fun _ h9 => h9) rfl dX0_gather_105 ?_
              refine lv_iload_n hx hb dX0_gather_108 rfl (lv_at hl 1 rfl) ?_
              refine va_iast hx hb hK hP hD hS 10 0 rfl rfl hw.1 dX0_gather_109 (fun H locs hP hD hS => ?_)
              have hw := hw.2
              have hP : va_P D vwCl (List.flatten [wRa cy hRa hRa_misfits hRa_nodals hRa_order hRa_places hRa_counted hRa_begins hPl hBu ns nn Ra_misfits Ra_nodals Ra_order Ra_places Ra_keptCount Ra_least Ra_version Ra_counted Ra_begins, wBu cy hBu hBu_isHeld hBu_axes hBu_firstSolutions hPl na Bu_count_v_31 Bu_spreadUpper Bu_spreadLower Bu_centreSolution Bu_version (upd Bu_isHeld_v_31 x2_31.toNatClampNeg 1) (upd Bu_axes_v_31 Bu_count_v_31.toNatClampNeg x2_31) (upd Bu_firstSolutions_v_31 Bu_count_v_31.toNatClampNeg x1_31) Bu_farUpper Bu_farLower, wPl cy hPl hPl_lesser hPl_greater hPl_axisOf hPl_axisXs hPl_axisYs hPl_axisZs hPl_axisSquares hPl_poleSigns hPo np nq Pl_poleCount Pl_pairCount Pl_lesser Pl_greater Pl_axisOf Pl_axisXs Pl_axisYs Pl_axisZs Pl_axisSquares Pl_axisCount Pl_poleSigns]) H := hP
              have hD : va_D A (List.flatten [wRa cy hRa hRa_misfits hRa_nodals hRa_order hRa_places hRa_counted hRa_begins hPl hBu ns nn Ra_misfits Ra_nodals Ra_order Ra_places Ra_keptCount Ra_least Ra_version Ra_counted Ra_begins, wBu cy hBu hBu_isHeld hBu_axes hBu_firstSolutions hPl na Bu_count_v_31 Bu_spreadUpper Bu_spreadLower Bu_centreSolution Bu_version (upd Bu_isHeld_v_31 x2_31.toNatClampNeg 1) (upd Bu_axes_v_31 Bu_count_v_31.toNatClampNeg x2_31) (upd Bu_firstSolutions_v_31 Bu_count_v_31.toNatClampNeg x1_31) Bu_farUpper Bu_farLower, wPl cy hPl hPl_lesser hPl_greater hPl_axisOf hPl_axisXs hPl_axisYs hPl_axisZs hPl_axisSquares hPl_poleSigns hPo np nq Pl_poleCount Pl_pairCount Pl_lesser Pl_greater Pl_axisOf Pl_axisXs Pl_axisYs Pl_axisZs Pl_axisSquares Pl_axisCount Pl_poleSigns]) := hD
              refine lv_aload_n hx hb dX0_gather_110 rfl (lv_at hl 2 rfl) ?_
              refine lv_dup hx hb dX0_gather_111 rfl ?_
              refine va_get (D := D) (ci := 0) (v := .int Bu_count_v_31) (C := RX0) (T := TX0) (N := 11) hx hb hts inlX0 hown hK hP 7 rfl rfl 1 (by decide) (hts (.fieldLink RX0 46 "SquarePlanes$Bundle" "count" "I") mw_26_3) (fun _ h9 => h9) rfl dX0_gather_112 ?_
              refine lv_iconst (v := 1) hx hb dX0_gather_115 (by decide) ?_
              refine lv_iadd hx hb dX0_gather_116 ?_
              refine lv_topi (fun x3_31 ex3_31 => ?_)
              have hw := hw x3_31 ex3_31
              refine va_put (D := D) (ci := 0) (v := .int x3_31) (ty := tyX0 1) (C := RX0) (T := TX0) (N := 11) hx hb hts inlX0 tyX0 tyX0_ok nmX0 hown hK hP hD hS 7 rfl rfl 1 (by decide) (hts (.fieldLink RX0 46 "SquarePlanes$Bundle" "count" "I") mw_26_3) (fun _ h9 => h9) rfl (tyX0_ok 1 (by decide)) rfl rfl (Nat.le_of_ble_eq_true rfl) dX0_gather_117 (fun H locs hP hD hS => ?_)
              have hP : va_P D vwCl (List.flatten [wRa cy hRa hRa_misfits hRa_nodals hRa_order hRa_places hRa_counted hRa_begins hPl hBu ns nn Ra_misfits Ra_nodals Ra_order Ra_places Ra_keptCount Ra_least Ra_version Ra_counted Ra_begins, wBu cy hBu hBu_isHeld hBu_axes hBu_firstSolutions hPl na x3_31 Bu_spreadUpper Bu_spreadLower Bu_centreSolution Bu_version (upd Bu_isHeld_v_31 x2_31.toNatClampNeg 1) (upd Bu_axes_v_31 Bu_count_v_31.toNatClampNeg x2_31) (upd Bu_firstSolutions_v_31 Bu_count_v_31.toNatClampNeg x1_31) Bu_farUpper Bu_farLower, wPl cy hPl hPl_lesser hPl_greater hPl_axisOf hPl_axisXs hPl_axisYs hPl_axisZs hPl_axisSquares hPl_poleSigns hPo np nq Pl_poleCount Pl_pairCount Pl_lesser Pl_greater Pl_axisOf Pl_axisXs Pl_axisYs Pl_axisZs Pl_axisSquares Pl_axisCount Pl_poleSigns]) H := hP
              have hD : va_D A (List.flatten [wRa cy hRa hRa_misfits hRa_nodals hRa_order hRa_places hRa_counted hRa_begins hPl hBu ns nn Ra_misfits Ra_nodals Ra_order Ra_places Ra_keptCount Ra_least Ra_version Ra_counted Ra_begins, wBu cy hBu hBu_isHeld hBu_axes hBu_firstSolutions hPl na x3_31 Bu_spreadUpper Bu_spreadLower Bu_centreSolution Bu_version (upd Bu_isHeld_v_31 x2_31.toNatClampNeg 1) (upd Bu_axes_v_31 Bu_count_v_31.toNatClampNeg x2_31) (upd Bu_firstSolutions_v_31 Bu_count_v_31.toNatClampNeg x1_31) Bu_farUpper Bu_farLower, wPl cy hPl hPl_lesser hPl_greater hPl_axisOf hPl_axisXs hPl_axisYs hPl_axisZs hPl_axisSquares hPl_poleSigns hPo np nq Pl_poleCount Pl_pairCount Pl_lesser Pl_greater Pl_axisOf Pl_axisXs Pl_axisYs Pl_axisZs Pl_axisSquares Pl_axisCount Pl_poleSigns]) := hD
              refine lv_iinc (v := y2_31 + 1) (lv' := [(2, .int (y2_31 + 1)), (4, .int x2_31), (3, .int x1_31), (0, .ref hBu), (1, .ref hRa)]) hx hb dX0_gather_120 hl (k := 4) rfl rfl (by decide) rfl (fun ls hl => ?_)
              refine lv_goto (tgt := 31) hx hb dX0_gather_123 (by decide) ?_
              exact ih31 (y2_31 + 1) x3_31 (upd Bu_isHeld_v_31 x2_31.toNatClampNeg 1) (upd Bu_axes_v_31 Bu_count_v_31.toNatClampNeg x2_31) (upd Bu_firstSolutions_v_31 Bu_count_v_31.toNatClampNeg x1_31) _ _ ls hw hP hD hS (lv_sub hl [3, 4, 0] rfl)
    refine kl31 _ ?_ n31 0 0 Bu_isHeld_v_7 Bu_axes Bu_firstSolutions _ _ ls hw hP hD hS (lv_sub hl [1, 2, 0] rfl)
    · intro y2_31 Bu_count_v_31 Bu_isHeld_v_31 Bu_axes_v_31 Bu_firstSolutions_v_31 H locs ls hw hP hD hS hl
      exact W.vret hx hb hr (fun t ht hW => ⟨⟨(Bu_count_v_31, Bu_isHeld_v_31, Bu_axes_v_31, Bu_firstSolutions_v_31), rfl, hw, ⟨by rw [ht]; exact hP, va_K.moved hW.alike hK, hD⟩⟩, hS.F ht⟩) hS.2.2 dX0_gather_126
set_option maxHeartbeats 4000000 in
set_option maxRecDepth 100000 in
theorem k_X1_heldAxis (l : Launch) (D : va_G) (cy : Nat → ClassId) (hPl hPl_lesser hPl_greater hPl_axisOf hPl_axisXs hPl_axisYs hPl_axisZs hPl_axisSquares hPl_poleSigns hPo np nq : Nat) (Pl_poleCount : Int32) (Pl_pairCount : Int32) (Pl_lesser : Nat → Int32) (Pl_greater : Nat → Int32) (Pl_axisOf : Nat → Int32) (Pl_axisXs : Nat → Int32) (Pl_axisYs : Nat → Int32) (Pl_axisZs : Nat → Int32) (Pl_axisSquares : Nat → Int32) (Pl_axisCount : Int32) (Pl_poleSigns : Nat → Int32) (p0 : Int32) (p1 : Int32) (p2 : Int32) (sz : Nat) (Q : Int32 → (Nat → Int32) → (Nat → Int32) → (Nat → Int32) → (Nat → Int32) → Int32 → Prop) (hw : wp_X1_heldAxis p0 p1 p2 np nq Pl_pairCount Pl_axisXs Pl_axisYs Pl_axisZs Pl_axisSquares Pl_axisCount Q) : Met l yX1_heldAxis (wA yX1_heldAxis cX1_heldAxis 5 (some .int)) { frames := 0, cells := 0, slots := 0, locals := 0 } (kPc [.ref hPl, .int p0, .int p1, .int p2] D cy (List.flatten [wPl cy hPl hPl_lesser hPl_greater hPl_axisOf hPl_axisXs hPl_axisYs hPl_axisZs hPl_axisSquares hPl_poleSigns hPo np nq Pl_poleCount Pl_pairCount Pl_lesser Pl_greater Pl_axisOf Pl_axisXs Pl_axisYs Pl_axisZs Pl_axisSquares Pl_axisCount Pl_poleSigns]) sz) (va_Qi (fun (r : Int32) (u : (Nat → Int32) × (Nat → Int32) × (Nat → Int32) × (Nat → Int32) × Int32) => Q r u.1 u.2.1 u.2.2.1 u.2.2.2.1 u.2.2.2.2) (fun u t => kB D cy (va_A (List.flatten [wPl cy hPl hPl_lesser hPl_greater hPl_axisOf hPl_axisXs hPl_axisYs hPl_axisZs hPl_axisSquares hPl_poleSigns hPo np nq Pl_poleCount Pl_pairCount Pl_lesser Pl_greater Pl_axisOf Pl_axisXs Pl_axisYs Pl_axisZs Pl_axisSquares Pl_axisCount Pl_poleSigns]) sz) (List.flatten [wPl cy hPl hPl_lesser hPl_greater hPl_axisOf hPl_axisXs hPl_axisYs hPl_axisZs hPl_axisSquares hPl_poleSigns hPo np nq Pl_poleCount Pl_pairCount Pl_lesser Pl_greater Pl_axisOf u.1 u.2.1 u.2.2.1 u.2.2.2.1 u.2.2.2.2 Pl_poleSigns]) t) (va_A (List.flatten [wPl cy hPl hPl_lesser hPl_greater hPl_axisOf hPl_axisXs hPl_axisYs hPl_axisZs hPl_axisSquares hPl_poleSigns hPo np nq Pl_poleCount Pl_pairCount Pl_lesser Pl_greater Pl_axisOf Pl_axisXs Pl_axisYs Pl_axisZs Pl_axisSquares Pl_axisCount Pl_poleSigns]) sz)) 0 0 (va_A (List.flatten [wPl cy hPl hPl_lesser hPl_greater hPl_axisOf hPl_axisXs hPl_axisYs hPl_axisZs hPl_axisSquares hPl_poleSigns hPo np nq Pl_poleCount Pl_pairCount Pl_lesser Pl_greater Pl_axisOf Pl_axisXs Pl_axisYs Pl_axisZs Pl_axisSquares Pl_axisCount Pl_poleSigns]) sz) := by
  refine Met.ofW (cc := cX1_heldAxis) (maxL := 5) (ret := (some .int)) (by decide) rfl ?_
  intro p e s m args below meth c s₁ B hml hv
  obtain ⟨rfl, hsz, hN, hP, hK, hD0⟩ := hv
  have hx := B.exec
  have hb := B.bytes
  have hr := B.returns
  have hts0 := atoms_spec (ws := wA yX1_heldAxis cX1_heldAxis 5 (some .int)) B.pre
  have hts := fun w (h : w ∈ wsL_law) => hts0 w (List.mem_cons_of_mem _ h)
  have hown : s.vm.findClass RX1 = some m.cls := findClass_of_methodNamed B.named
  have hlocks := B.notSynchronized
  subst hsz
  have hD := hD0.self (sz := s.heap.size)
  generalize hAe : va_A (List.flatten [wPl cy hPl hPl_lesser hPl_greater hPl_axisOf hPl_axisXs hPl_axisYs hPl_axisZs hPl_axisSquares hPl_poleSigns hPo np nq Pl_poleCount Pl_pairCount Pl_lesser Pl_greater Pl_axisOf Pl_axisXs Pl_axisYs Pl_axisZs Pl_axisSquares Pl_axisCount Pl_poleSigns]) s.heap.size = A at hD ⊢
  have hA : ∀ q : Nat, s.heap.size ≤ q → A q := fun q h => by rw [← hAe]; exact Or.inr h
  have hS : va_S A s.heap s.heap [] := va_S.rf
  have hP : va_P D vwCl (List.flatten [wPl cy hPl hPl_lesser hPl_greater hPl_axisOf hPl_axisXs hPl_axisYs hPl_axisZs hPl_axisSquares hPl_poleSigns hPo np nq Pl_poleCount Pl_pairCount Pl_lesser Pl_greater Pl_axisOf Pl_axisXs Pl_axisYs Pl_axisZs Pl_axisSquares Pl_axisCount Pl_poleSigns]) s.heap := hP
  have hl := lv_entry ([.ref hPl, .int p0, .int p1, .int p2]) (n := 5) (Nat.le_of_ble_eq_true rfl)
  rw [lg_entry_eq]
  generalize (lg_sl ([.ref hPl, .int p0, .int p1, .int p2]) ++ List.replicate (5 - (lg_sl ([.ref hPl, .int p0, .int p1, .int p2])).length) Slot.unset).toArray = ls at hl ⊢
  have hl : lv_has ls 5 [(0, .ref hPl), (1, .int p0), (2, .int p1), (3, .int p2)] := hl
  unfold wp_X1_heldAxis at hw
  refine lv_iconst (v := 0) hx hb dX1_heldAxis_0 (by decide) ?_
  refine lv_istore (lv' := [(4, .int 0), (0, .ref hPl), (1, .int p0), (2, .int p1), (3, .int p2)]) hx hb dX1_heldAxis_1 hl (by decide) rfl (fun ls hl => ?_)
  obtain ⟨n3, hw⟩ := hw
  have kl3 : ∀ (K3_54 : Int32 → Prop) (K3_45 : Int32 → Prop) (hk3_54 : ∀ (y4_3 : Int32) (H : Heap) (locs : List Loc) (ls : Array Slot), K3_54 y4_3 → va_P D vwCl (List.flatten [wPl cy hPl hPl_lesser hPl_greater hPl_axisOf hPl_axisXs hPl_axisYs hPl_axisZs hPl_axisSquares hPl_poleSigns hPo np nq Pl_poleCount Pl_pairCount Pl_lesser Pl_greater Pl_axisOf Pl_axisXs Pl_axisYs Pl_axisZs Pl_axisSquares Pl_axisCount Pl_poleSigns]) H → va_D A (List.flatten [wPl cy hPl hPl_lesser hPl_greater hPl_axisOf hPl_axisXs hPl_axisYs hPl_axisZs hPl_axisSquares hPl_poleSigns hPo np nq Pl_poleCount Pl_pairCount Pl_lesser Pl_greater Pl_axisOf Pl_axisXs Pl_axisYs Pl_axisZs Pl_axisSquares Pl_axisCount Pl_poleSigns]) → va_S A s.heap H locs → lv_has ls 5 [(0, .ref hPl), (1, .int p0), (2, .int p1), (3, .int p2), (4, .int y4_3)] → W p l e (headSpec (wA yX1_heldAxis cX1_heldAxis 5 (some .int)) { frames := 0, cells := 0, slots := 0, locals := 0 }).room s m #[.ref hPl, .int p0, .int p1, .int p2] below meth c H locs 0 0 (MQ below (va_Qi (fun (r : Int32) (u : (Nat → Int32) × (Nat → Int32) × (Nat → Int32) × (Nat → Int32) × Int32) => Q r u.1 u.2.1 u.2.2.1 u.2.2.2.1 u.2.2.2.2) (fun u t => kB D cy A (List.flatten [wPl cy hPl hPl_lesser hPl_greater hPl_axisOf hPl_axisXs hPl_axisYs hPl_axisZs hPl_axisSquares hPl_poleSigns hPo np nq Pl_poleCount Pl_pairCount Pl_lesser Pl_greater Pl_axisOf u.1 u.2.1 u.2.2.1 u.2.2.2.1 u.2.2.2.2 Pl_poleSigns]) t) A) #[.ref hPl, .int p0, .int p1, .int p2] s 0 0 A) (F0 m 54 ls [])) (hk3_45 : ∀ (y4_3 : Int32) (H : Heap) (locs : List Loc) (ls : Array Slot), K3_45 y4_3 → va_P D vwCl (List.flatten [wPl cy hPl hPl_lesser hPl_greater hPl_axisOf hPl_axisXs hPl_axisYs hPl_axisZs hPl_axisSquares hPl_poleSigns hPo np nq Pl_poleCount Pl_pairCount Pl_lesser Pl_greater Pl_axisOf Pl_axisXs Pl_axisYs Pl_axisZs Pl_axisSquares Pl_axisCount Pl_poleSigns]) H → va_D A (List.flatten [wPl cy hPl hPl_lesser hPl_greater hPl_axisOf hPl_axisXs hPl_axisYs hPl_axisZs hPl_axisSquares hPl_poleSigns hPo np nq Pl_poleCount Pl_pairCount Pl_lesser Pl_greater Pl_axisOf Pl_axisXs Pl_axisYs Pl_axisZs Pl_axisSquares Pl_axisCount Pl_poleSigns]) → va_S A s.heap H locs → lv_has ls 5 [(0, .ref hPl), (1, .int p0), (2, .int p1), (3, .int p2), (4, .int y4_3)] → W p l e (headSpec (wA yX1_heldAxis cX1_heldAxis 5 (some .int)) { frames := 0, cells := 0, slots := 0, locals := 0 }).room s m #[.ref hPl, .int p0, .int p1, .int p2] below meth c H locs 0 0 (MQ below (va_Qi (fun (r : Int32) (u : (Nat → Int32) × (Nat → Int32) × (Nat → Int32) × (Nat → Int32) × Int32) => Q r u.1 u.2.1 u.2.2.1 u.2.2.2.1 u.2.2.2.2) (fun u t => kB D cy A (List.flatten [wPl cy hPl hPl_lesser hPl_greater hPl_axisOf hPl_axisXs hPl_axisYs hPl_axisZs hPl_axisSquares hPl_poleSigns hPo np nq Pl_poleCount Pl_pairCount Pl_lesser Pl_greater Pl_axisOf u.1 u.2.1 u.2.2.1 u.2.2.2.1 u.2.2.2.2 Pl_poleSigns]) t) A) #[.ref hPl, .int p0, .int p1, .int p2] s 0 0 A) (F0 m 45 ls [])) (n : Nat) (y4_3 : Int32) (H : Heap) (locs : List Loc) (ls : Array Slot), wp_X1_heldAxis_L3 p0 p1 p2 np Pl_axisXs Pl_axisYs Pl_axisZs Pl_axisCount K3_54 K3_45 n y4_3 → va_P D vwCl (List.flatten [wPl cy hPl hPl_lesser hPl_greater hPl_axisOf hPl_axisXs hPl_axisYs hPl_axisZs hPl_axisSquares hPl_poleSigns hPo np nq Pl_poleCount Pl_pairCount Pl_lesser Pl_greater Pl_axisOf Pl_axisXs Pl_axisYs Pl_axisZs Pl_axisSquares Pl_axisCount Pl_poleSigns]) H → va_D A (List.flatten [wPl cy hPl hPl_lesser hPl_greater hPl_axisOf hPl_axisXs hPl_axisYs hPl_axisZs hPl_axisSquares hPl_poleSigns hPo np nq Pl_poleCount Pl_pairCount Pl_lesser Pl_greater Pl_axisOf Pl_axisXs Pl_axisYs Pl_axisZs Pl_axisSquares Pl_axisCount Pl_poleSigns]) → va_S A s.heap H locs → lv_has ls 5 [(0, .ref hPl), (1, .int p0), (2, .int p1), (3, .int p2), (4, .int y4_3)] → W p l e (headSpec (wA yX1_heldAxis cX1_heldAxis 5 (some .int)) { frames := 0, cells := 0, slots := 0, locals := 0 }).room s m #[.ref hPl, .int p0, .int p1, .int p2] below meth c H locs 0 0 (MQ below (va_Qi (fun (r : Int32) (u : (Nat → Int32) × (Nat → Int32) × (Nat → Int32) × (Nat → Int32) × Int32) => Q r u.1 u.2.1 u.2.2.1 u.2.2.2.1 u.2.2.2.2) (fun u t => kB D cy A (List.flatten [wPl cy hPl hPl_lesser hPl_greater hPl_axisOf hPl_axisXs hPl_axisYs hPl_axisZs hPl_axisSquares hPl_poleSigns hPo np nq Pl_poleCount Pl_pairCount Pl_lesser Pl_greater Pl_axisOf u.1 u.2.1 u.2.2.1 u.2.2.2.1 u.2.2.2.2 Pl_poleSigns]) t) A) #[.ref hPl, .int p0, .int p1, .int p2] s 0 0 A) (F0 m 3 ls []) := by
    intro K3_54 K3_45 hk3_54 hk3_45 n
    induction n with
    | zero =>
      intro y4_3 H locs ls hw
      exact hw.elim
    | succ n ih3 =>
      intro y4_3 H locs ls hw hP hD hS hl
      unfold wp_X1_heldAxis_L3 at hw
      refine lv_iload hx hb dX1_heldAxis_3 (lv_at hl 4 rfl) ?_
      refine lv_aload_n hx hb dX1_heldAxis_5 rfl (lv_at hl 0 rfl) ?_
      refine va_get (D := D) (ci := 1) (v := .int Pl_axisCount) (C := RX1) (T := TX1) (N := 12) hx hb hts inlX1 hown hK hP 0 rfl rfl 10 (by decide) (hts (.fieldLink RX1 80 "SquarePlanes$Planes" "axisCount" "I") mw_5_18) (fun _ h9 => h9) rfl dX1_heldAxis_6 ?_
      refine lv_icmp_ge (tgt := 54) hx hb dX1_heldAxis_9 (by decide) (fun c4_3 => ?_) (fun c4_3 => ?_)
      · have hw := hw.1 c4_3
        exact hk3_54 y4_3 _ _ ls hw hP hD hS (lv_sub hl [0, 1, 2, 3, 4] rfl)
      · have hw := hw.2 c4_3
        refine lv_aload_n hx hb dX1_heldAxis_12 rfl (lv_at hl 0 rfl) ?_
        refine va_get (D := D) (ci := 1) (v := .ref hPl_axisXs) (C := RX1) (T := TX1) (N := 12) hx hb hts inlX1 hown hK hP 0 rfl rfl 6 (by decide) (hts (.fieldLink RX1 36 "SquarePlanes$Planes" "axisXs" "[I") mw_4_11) (fun _ h9 => h9) rfl dX1_heldAxis_13 ?_
        refine lv_iload hx hb dX1_heldAxis_16 (lv_at hl 4 rfl) ?_
        refine va_iald hx hb hK hP 4 0 rfl rfl hw.1 dX1_heldAxis_18 ?_
        have hw := hw.2
        refine lv_iload_n hx hb dX1_heldAxis_19 rfl (lv_at hl 1 rfl) ?_
        refine lv_icmp_ne (tgt := 48) hx hb dX1_heldAxis_20 (by decide) (fun c3_3 => ?_) (fun c3_3 => ?_)
        · have hw := hw.2 c3_3
          refine lv_iinc (v := y4_3 + 1) (lv' := [(4, .int (y4_3 + 1)), (0, .ref hPl), (1, .int p0), (2, .int p1), (3, .int p2)]) hx hb dX1_heldAxis_48 hl (k := 4) rfl rfl (by decide) rfl (fun ls hl => ?_)
          refine lv_goto (tgt := 3) hx hb dX1_heldAxis_51 (by decide) ?_
          exact ih3 (y4_3 + 1) _ _ ls hw hP hD hS (lv_sub hl [1, 2, 3, 4, 0] rfl)
        · have hw := hw.1 c3_3
          refine lv_aload_n hx hb dX1_heldAxis_23 rfl (lv_at hl 0 rfl) ?_
          refine va_get (D := D) (ci := 1) (v := .ref hPl_axisYs) (C := RX1) (T := TX1) (N := 12) hx hb hts inlX1 hown hK hP 0 rfl rfl 7 (by decide) (hts (.fieldLink RX1 39 "SquarePlanes$Planes" "axisYs" "[I") mw_4_12) (fun _ h9 => h9) rfl dX1_heldAxis_24 ?_
          refine lv_iload hx hb dX1_heldAxis_27 (lv_at hl 4 rfl) ?_
          refine va_iald hx hb hK hP 5 0 rfl rfl hw.1 dX1_heldAxis_29 ?_
          have hw := hw.2
          refine lv_iload_n hx hb dX1_heldAxis_30 rfl (lv_at hl 2 rfl) ?_
          refine lv_icmp_ne (tgt := 48) hx hb dX1_heldAxis_31 (by decide) (fun c2_3 => ?_) (fun c2_3 => ?_)
          · have hw := hw.2 c2_3
            refine lv_iinc (v := y4_3 + 1) (lv' := [(4, .int (y4_3 + 1)), (0, .ref hPl), (1, .int p0), (2, .int p1), (3, .int p2)]) hx hb dX1_heldAxis_48 hl (k := 4) rfl rfl (by decide) rfl (fun ls hl => ?_)
            refine lv_goto (tgt := 3) hx hb dX1_heldAxis_51 (by decide) ?_
            exact ih3 (y4_3 + 1) _ _ ls hw hP hD hS (lv_sub hl [1, 2, 3, 4, 0] rfl)
          · have hw := hw.1 c2_3
            refine lv_aload_n hx hb dX1_heldAxis_34 rfl (lv_at hl 0 rfl) ?_
            refine va_get (D := D) (ci := 1) (v := .ref hPl_axisZs) (C := RX1) (T := TX1) (N := 12) hx hb hts inlX1 hown hK hP 0 rfl rfl 8 (by decide) (hts (.fieldLink RX1 42 "SquarePlanes$Planes" "axisZs" "[I") mw_4_13) (fun _ h9 => h9) rfl dX1_heldAxis_35 ?_
            refine lv_iload hx hb dX1_heldAxis_38 (lv_at hl 4 rfl) ?_
            refine va_iald hx hb hK hP 6 0 rfl rfl hw.1 dX1_heldAxis_40 ?_
            have hw := hw.2
            refine lv_iload_n hx hb dX1_heldAxis_41 rfl (lv_at hl 3 rfl) ?_
            refine lv_icmp_ne (tgt := 48) hx hb dX1_heldAxis_42 (by decide) (fun c1_3 => ?_) (fun c1_3 => ?_)
            · have hw := hw.2 c1_3
              refine lv_iinc (v := y4_3 + 1) (lv' := [(4, .int (y4_3 + 1)), (0, .ref hPl), (1, .int p0), (2, .int p1), (3, .int p2)]) hx hb dX1_heldAxis_48 hl (k := 4) rfl rfl (by decide) rfl (fun ls hl => ?_)
              refine lv_goto (tgt := 3) hx hb dX1_heldAxis_51 (by decide) ?_
              exact ih3 (y4_3 + 1) _ _ ls hw hP hD hS (lv_sub hl [1, 2, 3, 4, 0] rfl)
            · have hw := hw.1 c1_3
              exact hk3_45 y4_3 _ _ ls hw hP hD hS (lv_sub hl [0, 1, 2, 3, 4] rfl)
  refine kl3 _ _ ?_ ?_ n3 0 _ _ ls hw hP hD hS (lv_sub hl [1, 2, 3, 4, 0] rfl)
  · intro y4_3 H locs ls hw hP hD hS hl
    refine lv_aload_n hx hb dX1_heldAxis_54 rfl (lv_at hl 0 rfl) ?_
    refine va_get (D := D) (ci := 1) (v := .int Pl_axisCount) (C := RX1) (T := TX1) (N := 12) hx hb hts inlX1 hown hK hP 0 rfl rfl 10 (by decide) (hts (.fieldLink RX1 80 "SquarePlanes$Planes" "axisCount" "I") mw_5_18) (fun _ h9 => h9) rfl dX1_heldAxis_55 ?_
    refine lv_aload_n hx hb dX1_heldAxis_58 rfl (lv_at hl 0 rfl) ?_
    refine va_get (D := D) (ci := 1) (v := .int Pl_pairCount) (C := RX1) (T := TX1) (N := 12) hx hb hts inlX1 hown hK hP 0 rfl rfl 2 (by decide) (hts (.fieldLink RX1 23 "SquarePlanes$Planes" "pairCount" "I") mw_4_7) (fun _ h9 => h9) rfl dX1_heldAxis_59 ?_
    refine lv_icmp_lt (tgt := 67) hx hb dX1_heldAxis_62 (by decide) (fun c3 => ?_) (fun c3 => ?_)
    · have hw := hw.1 c3
      refine lv_aload_n hx hb dX1_heldAxis_67 rfl (lv_at hl 0 rfl) ?_
      refine va_get (D := D) (ci := 1) (v := .ref hPl_axisXs) (C := RX1) (T := TX1) (N := 12) hx hb hts inlX1 hown hK hP 0 rfl rfl 6 (by decide) (hts (.fieldLink RX1 36 "SquarePlanes$Planes" "axisXs" "[I") mw_4_11) (fun _ h9 => h9) rfl dX1_heldAxis_68 ?_
      refine lv_aload_n hx hb dX1_heldAxis_71 rfl (lv_at hl 0 rfl) ?_
      refine va_get (D := D) (ci := 1) (v := .int Pl_axisCount) (C := RX1) (T := TX1) (N := 12) hx hb hts inlX1 hown hK hP 0 rfl rfl 10 (by decide) (hts (.fieldLink RX1 80 "SquarePlanes$Planes" "axisCount" "I") mw_5_18) (fun _ h9 => h9) rfl dX1_heldAxis_72 ?_
      refine lv_iload_n hx hb dX1_heldAxis_75 rfl (lv_at hl 1 rfl) ?_
      refine va_iast hx hb hK hP hD hS 4 0 rfl rfl hw.1 dX1_heldAxis_76 (fun H locs hP hD hS => ?_)
      have hw := hw.2
      have hP : va_P D vwCl (List.flatten [wPl cy hPl hPl_lesser hPl_greater hPl_axisOf hPl_axisXs hPl_axisYs hPl_axisZs hPl_axisSquares hPl_poleSigns hPo np nq Pl_poleCount Pl_pairCount Pl_lesser Pl_greater Pl_axisOf (upd Pl_axisXs Pl_axisCount.toNatClampNeg p0) Pl_axisYs Pl_axisZs Pl_axisSquares Pl_axisCount Pl_poleSigns]) H := hP
      have hD : va_D A (List.flatten [wPl cy hPl hPl_lesser hPl_greater hPl_axisOf hPl_axisXs hPl_axisYs hPl_axisZs hPl_axisSquares hPl_poleSigns hPo np nq Pl_poleCount Pl_pairCount Pl_lesser Pl_greater Pl_axisOf (upd Pl_axisXs Pl_axisCount.toNatClampNeg p0) Pl_axisYs Pl_axisZs Pl_axisSquares Pl_axisCount Pl_poleSigns]) := hD
      refine lv_aload_n hx hb dX1_heldAxis_77 rfl (lv_at hl 0 rfl) ?_
      refine va_get (D := D) (ci := 1) (v := .ref hPl_axisYs) (C := RX1) (T := TX1) (N := 12) hx hb hts inlX1 hown hK hP 0 rfl rfl 7 (by decide) (hts (.fieldLink RX1 39 "SquarePlanes$Planes" "axisYs" "[I") mw_4_12) (fun _ h9 => h9) rfl dX1_heldAxis_78 ?_
      refine lv_aload_n hx hb dX1_heldAxis_81 rfl (lv_at hl 0 rfl) ?_
      refine va_get (D := D) (ci := 1) (v := .int Pl_axisCount) (C := RX1) (T := TX1) (N := 12) hx hb hts inlX1 hown hK hP 0 rfl rfl 10 (by decide) (hts (.fieldLink RX1 80 "SquarePlanes$Planes" "axisCount" "I") mw_5_18) (fun _ h9 => h9) rfl dX1_heldAxis_82 ?_
      refine lv_iload_n hx hb dX1_heldAxis_85 rfl (lv_at hl 2 rfl) ?_
      refine va_iast hx hb hK hP hD hS 5 0 rfl rfl hw.1 dX1_heldAxis_86 (fun H locs hP hD hS => ?_)
      have hw := hw.2
      have hP : va_P D vwCl (List.flatten [wPl cy hPl hPl_lesser hPl_greater hPl_axisOf hPl_axisXs hPl_axisYs hPl_axisZs hPl_axisSquares hPl_poleSigns hPo np nq Pl_poleCount Pl_pairCount Pl_lesser Pl_greater Pl_axisOf (upd Pl_axisXs Pl_axisCount.toNatClampNeg p0) (upd Pl_axisYs Pl_axisCount.toNatClampNeg p1) Pl_axisZs Pl_axisSquares Pl_axisCount Pl_poleSigns]) H := hP
      have hD : va_D A (List.flatten [wPl cy hPl hPl_lesser hPl_greater hPl_axisOf hPl_axisXs hPl_axisYs hPl_axisZs hPl_axisSquares hPl_poleSigns hPo np nq Pl_poleCount Pl_pairCount Pl_lesser Pl_greater Pl_axisOf (upd Pl_axisXs Pl_axisCount.toNatClampNeg p0) (upd Pl_axisYs Pl_axisCount.toNatClampNeg p1) Pl_axisZs Pl_axisSquares Pl_axisCount Pl_poleSigns]) := hD
      refine lv_aload_n hx hb dX1_heldAxis_87 rfl (lv_at hl 0 rfl) ?_
      refine va_get (D := D) (ci := 1) (v := .ref hPl_axisZs) (C := RX1) (T := TX1) (N := 12) hx hb hts inlX1 hown hK hP 0 rfl rfl 8 (by decide) (hts (.fieldLink RX1 42 "SquarePlanes$Planes" "axisZs" "[I") mw_4_13) (fun _ h9 => h9) rfl dX1_heldAxis_88 ?_
      refine lv_aload_n hx hb dX1_heldAxis_91 rfl (lv_at hl 0 rfl) ?_
      refine va_get (D := D) (ci := 1) (v := .int Pl_axisCount) (C := RX1) (T := TX1) (N := 12) hx hb hts inlX1 hown hK hP 0 rfl rfl 10 (by decide) (hts (.fieldLink RX1 80 "SquarePlanes$Planes" "axisCount" "I") mw_5_18) (fun _ h9 => h9) rfl dX1_heldAxis_92 ?_
      refine lv_iload_n hx hb dX1_heldAxis_95 rfl (lv_at hl 3 rfl) ?_
      refine va_iast hx hb hK hP hD hS 6 0 rfl rfl hw.1 dX1_heldAxis_96 (fun H locs hP hD hS => ?_)
      have hw := hw.2
      have hP : va_P D vwCl (List.flatten [wPl cy hPl hPl_lesser hPl_greater hPl_axisOf hPl_axisXs hPl_axisYs hPl_axisZs hPl_axisSquares hPl_poleSigns hPo np nq Pl_poleCount Pl_pairCount Pl_lesser Pl_greater Pl_axisOf (upd Pl_axisXs Pl_axisCount.toNatClampNeg p0) (upd Pl_axisYs Pl_axisCount.toNatClampNeg p1) (upd Pl_axisZs Pl_axisCount.toNatClampNeg p2) Pl_axisSquares Pl_axisCount Pl_poleSigns]) H := hP
      have hD : va_D A (List.flatten [wPl cy hPl hPl_lesser hPl_greater hPl_axisOf hPl_axisXs hPl_axisYs hPl_axisZs hPl_axisSquares hPl_poleSigns hPo np nq Pl_poleCount Pl_pairCount Pl_lesser Pl_greater Pl_axisOf (upd Pl_axisXs Pl_axisCount.toNatClampNeg p0) (upd Pl_axisYs Pl_axisCount.toNatClampNeg p1) (upd Pl_axisZs Pl_axisCount.toNatClampNeg p2) Pl_axisSquares Pl_axisCount Pl_poleSigns]) := hD
      refine lv_aload_n hx hb dX1_heldAxis_97 rfl (lv_at hl 0 rfl) ?_
      refine va_get (D := D) (ci := 1) (v := .ref hPl_axisSquares) (C := RX1) (T := TX1) (N := 12) hx hb hts inlX1 hown hK hP 0 rfl rfl 9 (by decide) (hts (.fieldLink RX1 45 "SquarePlanes$Planes" "axisSquares" "[I") mw_4_14) (fun _ h9 => h9) rfl dX1_heldAxis_98 ?_
      refine lv_aload_n hx hb dX1_heldAxis_101 rfl (lv_at hl 0 rfl) ?_
      refine va_get (D := D) (ci := 1) (v := .int Pl_axisCount) (C := RX1) (T := TX1) (N := 12) hx hb hts inlX1 hown hK hP 0 rfl rfl 10 (by decide) (hts (.fieldLink RX1 80 "SquarePlanes$Planes" "axisCount" "I") mw_5_18) (fun _ h9 => h9) rfl dX1_heldAxis_102 ?_
      refine lv_iload_n hx hb dX1_heldAxis_105 rfl (lv_at hl 1 rfl) ?_
      refine lv_iload_n hx hb dX1_heldAxis_106 rfl (lv_at hl 1 rfl) ?_
      refine lv_imul hx hb dX1_heldAxis_107 ?_
      refine lv_iload_n hx hb dX1_heldAxis_108 rfl (lv_at hl 2 rfl) ?_
      refine lv_iload_n hx hb dX1_heldAxis_109 rfl (lv_at hl 2 rfl) ?_
      refine lv_imul hx hb dX1_heldAxis_110 ?_
      refine lv_iadd hx hb dX1_heldAxis_111 ?_
      refine lv_iload_n hx hb dX1_heldAxis_112 rfl (lv_at hl 3 rfl) ?_
      refine lv_iload_n hx hb dX1_heldAxis_113 rfl (lv_at hl 3 rfl) ?_
      refine lv_imul hx hb dX1_heldAxis_114 ?_
      refine lv_iadd hx hb dX1_heldAxis_115 ?_
      refine lv_topi (fun x1 ex1 => ?_)
      have hw := hw x1 ex1
      refine va_iast hx hb hK hP hD hS 7 0 rfl rfl hw.1 dX1_heldAxis_116 (fun H locs hP hD hS => ?_)
      have hw := hw.2
      have hP : va_P D vwCl (List.flatten [wPl cy hPl hPl_lesser hPl_greater hPl_axisOf hPl_axisXs hPl_axisYs hPl_axisZs hPl_axisSquares hPl_poleSigns hPo np nq Pl_poleCount Pl_pairCount Pl_lesser Pl_greater Pl_axisOf (upd Pl_axisXs Pl_axisCount.toNatClampNeg p0) (upd Pl_axisYs Pl_axisCount.toNatClampNeg p1) (upd Pl_axisZs Pl_axisCount.toNatClampNeg p2) (upd Pl_axisSquares Pl_axisCount.toNatClampNeg x1) Pl_axisCount Pl_poleSigns]) H := hP
      have hD : va_D A (List.flatten [wPl cy hPl hPl_lesser hPl_greater hPl_axisOf hPl_axisXs hPl_axisYs hPl_axisZs hPl_axisSquares hPl_poleSigns hPo np nq Pl_poleCount Pl_pairCount Pl_lesser Pl_greater Pl_axisOf (upd Pl_axisXs Pl_axisCount.toNatClampNeg p0) (upd Pl_axisYs Pl_axisCount.toNatClampNeg p1) (upd Pl_axisZs Pl_axisCount.toNatClampNeg p2) (upd Pl_axisSquares Pl_axisCount.toNatClampNeg x1) Pl_axisCount Pl_poleSigns]) := hD
      refine lv_aload_n hx hb dX1_heldAxis_117 rfl (lv_at hl 0 rfl) ?_
      refine lv_dup hx hb dX1_heldAxis_118 rfl ?_
      refine va_get (D := D) (ci := 1) (v := .int Pl_axisCount) (C := RX1) (T := TX1) (N := 12) hx hb hts inlX1 hown hK hP 0 rfl rfl 10 (by decide) (hts (.fieldLink RX1 80 "SquarePlanes$Planes" "axisCount" "I") mw_5_18) (fun _ h9 => h9) rfl dX1_heldAxis_119 ?_
      refine lv_iconst (v := 1) hx hb dX1_heldAxis_122 (by decide) ?_
      refine lv_iadd hx hb dX1_heldAxis_123 ?_
      refine lv_topi (fun x2 ex2 => ?_)
      have hw := hw x2 ex2
      refine va_put (D := D) (ci := 1) (v := .int x2) (ty := tyX1 10) (C := RX1) (T := TX1) (N := 12) hx hb hts inlX1 tyX1 tyX1_ok nmX1 hown hK hP hD hS 0 rfl rfl 10 (by decide) (hts (.fieldLink RX1 80 "SquarePlanes$Planes" "axisCount" "I") mw_5_18) (fun _ h9 => h9) rfl (tyX1_ok 10 (by decide)) rfl rfl (Nat.le_of_ble_eq_true rfl) dX1_heldAxis_124 (fun H locs hP hD hS => ?_)
      have hP : va_P D vwCl (List.flatten [wPl cy hPl hPl_lesser hPl_greater hPl_axisOf hPl_axisXs hPl_axisYs hPl_axisZs hPl_axisSquares hPl_poleSigns hPo np nq Pl_poleCount Pl_pairCount Pl_lesser Pl_greater Pl_axisOf (upd Pl_axisXs Pl_axisCount.toNatClampNeg p0) (upd Pl_axisYs Pl_axisCount.toNatClampNeg p1) (upd Pl_axisZs Pl_axisCount.toNatClampNeg p2) (upd Pl_axisSquares Pl_axisCount.toNatClampNeg x1) x2 Pl_poleSigns]) H := hP
      have hD : va_D A (List.flatten [wPl cy hPl hPl_lesser hPl_greater hPl_axisOf hPl_axisXs hPl_axisYs hPl_axisZs hPl_axisSquares hPl_poleSigns hPo np nq Pl_poleCount Pl_pairCount Pl_lesser Pl_greater Pl_axisOf (upd Pl_axisXs Pl_axisCount.toNatClampNeg p0) (upd Pl_axisYs Pl_axisCount.toNatClampNeg p1) (upd Pl_axisZs Pl_axisCount.toNatClampNeg p2) (upd Pl_axisSquares Pl_axisCount.toNatClampNeg x1) x2 Pl_poleSigns]) := hD
      refine lv_aload_n hx hb dX1_heldAxis_127 rfl (lv_at hl 0 rfl) ?_
      refine va_get (D := D) (ci := 1) (v := .int x2) (C := RX1) (T := TX1) (N := 12) hx hb hts inlX1 hown hK hP 0 rfl rfl 10 (by decide) (hts (.fieldLink RX1 80 "SquarePlanes$Planes" "axisCount" "I") mw_5_18) (fun _ h9 => h9) rfl dX1_heldAxis_128 ?_
      refine lv_iconst (v := 1) hx hb dX1_heldAxis_131 (by decide) ?_
      refine lv_isub hx hb dX1_heldAxis_132 ?_
      exact W.iret (v := x2 - 1) hx hb hr (fun t ht hW => ⟨⟨x2 - 1, (upd Pl_axisXs Pl_axisCount.toNatClampNeg p0, upd Pl_axisYs Pl_axisCount.toNatClampNeg p1, upd Pl_axisZs Pl_axisCount.toNatClampNeg p2, upd Pl_axisSquares Pl_axisCount.toNatClampNeg x1, x2), rfl, hw, ⟨by rw [ht]; exact hP, va_K.moved hW.alike hK, hD⟩⟩, hS.F ht⟩) hS.2.2 dX1_heldAxis_133
    · have hw := hw.2 c3
      refine lv_iconst (v := 0) hx hb dX1_heldAxis_65 (by decide) ?_
      exact W.iret (v := 0) hx hb hr (fun t ht hW => ⟨⟨0, (Pl_axisXs, Pl_axisYs, Pl_axisZs, Pl_axisSquares, Pl_axisCount), rfl, hw, ⟨by rw [ht]; exact hP, va_K.moved hW.alike hK, hD⟩⟩, hS.F ht⟩) hS.2.2 dX1_heldAxis_66
  · intro y4_3 H locs ls hw hP hD hS hl
    refine lv_iload hx hb dX1_heldAxis_45 (lv_at hl 4 rfl) ?_
    exact W.iret (v := y4_3) hx hb hr (fun t ht hW => ⟨⟨y4_3, (Pl_axisXs, Pl_axisYs, Pl_axisZs, Pl_axisSquares, Pl_axisCount), rfl, hw, ⟨by rw [ht]; exact hP, va_K.moved hW.alike hK, hD⟩⟩, hS.F ht⟩) hS.2.2 dX1_heldAxis_47
set_option maxHeartbeats 4000000 in
set_option maxRecDepth 100000 in
theorem k_X1_solutionCount (l : Launch) (D : va_G) (cy : Nat → ClassId) (hPl hPl_lesser hPl_greater hPl_axisOf hPl_axisXs hPl_axisYs hPl_axisZs hPl_axisSquares hPl_poleSigns hPo np nq : Nat) (Pl_poleCount : Int32) (Pl_pairCount : Int32) (Pl_lesser : Nat → Int32) (Pl_greater : Nat → Int32) (Pl_axisOf : Nat → Int32) (Pl_axisXs : Nat → Int32) (Pl_axisYs : Nat → Int32) (Pl_axisZs : Nat → Int32) (Pl_axisSquares : Nat → Int32) (Pl_axisCount : Int32) (Pl_poleSigns : Nat → Int32) (sz : Nat) (Q : Int32 → Prop) (hw : wp_X1_solutionCount np nq Pl_pairCount Q) : Met l yX1_solutionCount (wA yX1_solutionCount cX1_solutionCount 1 (some .int)) { frames := 0, cells := 0, slots := 0, locals := 0 } (kPc [.ref hPl] D cy (List.flatten [wPl cy hPl hPl_lesser hPl_greater hPl_axisOf hPl_axisXs hPl_axisYs hPl_axisZs hPl_axisSquares hPl_poleSigns hPo np nq Pl_poleCount Pl_pairCount Pl_lesser Pl_greater Pl_axisOf Pl_axisXs Pl_axisYs Pl_axisZs Pl_axisSquares Pl_axisCount Pl_poleSigns]) sz) (kSi Q) 0 0 (fun _ => False) := by
  refine Met.ofW (cc := cX1_solutionCount) (maxL := 1) (ret := (some .int)) (by decide) rfl ?_
  intro p e s m args below meth c s₁ B hml hv
  obtain ⟨rfl, hsz, hN, hP, hK, hD0⟩ := hv
  have hx := B.exec
  have hb := B.bytes
  have hr := B.returns
  have hts0 := atoms_spec (ws := wA yX1_solutionCount cX1_solutionCount 1 (some .int)) B.pre
  have hts := fun w (h : w ∈ wsL_law) => hts0 w (List.mem_cons_of_mem _ h)
  have hown : s.vm.findClass RX1 = some m.cls := findClass_of_methodNamed B.named
  have hlocks := B.notSynchronized
  subst hsz
  have hD := hD0
  have hl := lv_entry ([.ref hPl]) (n := 1) (Nat.le_of_ble_eq_true rfl)
  rw [lg_entry_eq]
  generalize (lg_sl ([.ref hPl]) ++ List.replicate (1 - (lg_sl ([.ref hPl])).length) Slot.unset).toArray = ls at hl ⊢
  have hl : lv_has ls 1 [(0, .ref hPl)] := hl
  unfold wp_X1_solutionCount at hw
  refine lv_iconst (v := 2) hx hb dX1_solutionCount_0 (by decide) ?_
  refine lv_aload_n hx hb dX1_solutionCount_1 rfl (lv_at hl 0 rfl) ?_
  refine va_get (D := D) (ci := 1) (v := .int Pl_pairCount) (C := RX1) (T := TX1) (N := 12) hx hb hts inlX1 hown hK hP 0 rfl rfl 2 (by decide) (hts (.fieldLink RX1 23 "SquarePlanes$Planes" "pairCount" "I") mw_4_7) (fun _ h9 => h9) rfl dX1_solutionCount_2 ?_
  refine lv_imul hx hb dX1_solutionCount_5 ?_
  exact W.iret (v := 2 * Pl_pairCount) hx hb hr (fun t ht hW => ⟨2 * Pl_pairCount, rfl, hw, ht⟩) (fun q h => by cases h) dX1_solutionCount_6
set_option maxHeartbeats 4000000 in
set_option maxRecDepth 100000 in
theorem k_X1_find (l : Launch) (D : va_G) (cy : Nat → ClassId) (hPl hPl_lesser hPl_greater hPl_axisOf hPl_axisXs hPl_axisYs hPl_axisZs hPl_axisSquares hPl_poleSigns hPo np nq : Nat) (Pl_poleCount : Int32) (Pl_pairCount : Int32) (Pl_lesser : Nat → Int32) (Pl_greater : Nat → Int32) (Pl_axisOf : Nat → Int32) (Pl_axisXs : Nat → Int32) (Pl_axisYs : Nat → Int32) (Pl_axisZs : Nat → Int32) (Pl_axisSquares : Nat → Int32) (Pl_axisCount : Int32) (Pl_poleSigns : Nat → Int32) (p0 : Int32) (p1 : Int32) (sz : Nat) (Q : Int32 → Prop) (hw : wp_X1_find p0 p1 np nq Pl_pairCount Pl_lesser Pl_greater Q) : Met l yX1_find (wA yX1_find cX1_find 4 (some .int)) { frames := 0, cells := 0, slots := 0, locals := 0 } (kPc [.ref hPl, .int p0, .int p1] D cy (List.flatten [wPl cy hPl hPl_lesser hPl_greater hPl_axisOf hPl_axisXs hPl_axisYs hPl_axisZs hPl_axisSquares hPl_poleSigns hPo np nq Pl_poleCount Pl_pairCount Pl_lesser Pl_greater Pl_axisOf Pl_axisXs Pl_axisYs Pl_axisZs Pl_axisSquares Pl_axisCount Pl_poleSigns]) sz) (kSi Q) 0 0 (fun _ => False) := by
  refine Met.ofW (cc := cX1_find) (maxL := 4) (ret := (some .int)) (by decide) rfl ?_
  intro p e s m args below meth c s₁ B hml hv
  obtain ⟨rfl, hsz, hN, hP, hK, hD0⟩ := hv
  have hx := B.exec
  have hb := B.bytes
  have hr := B.returns
  have hts0 := atoms_spec (ws := wA yX1_find cX1_find 4 (some .int)) B.pre
  have hts := fun w (h : w ∈ wsL_law) => hts0 w (List.mem_cons_of_mem _ h)
  have hown : s.vm.findClass RX1 = some m.cls := findClass_of_methodNamed B.named
  have hlocks := B.notSynchronized
  subst hsz
  have hD := hD0
  have hl := lv_entry ([.ref hPl, .int p0, .int p1]) (n := 4) (Nat.le_of_ble_eq_true rfl)
  rw [lg_entry_eq]
  generalize (lg_sl ([.ref hPl, .int p0, .int p1]) ++ List.replicate (4 - (lg_sl ([.ref hPl, .int p0, .int p1])).length) Slot.unset).toArray = ls at hl ⊢
  have hl : lv_has ls 4 [(0, .ref hPl), (1, .int p0), (2, .int p1)] := hl
  unfold wp_X1_find at hw
  refine lv_iconst (v := 0) hx hb dX1_find_0 (by decide) ?_
  refine lv_istore_n (lv' := [(3, .int 0), (0, .ref hPl), (1, .int p0), (2, .int p1)]) hx hb dX1_find_1 rfl hl (by decide) rfl (fun ls hl => ?_)
  obtain ⟨n2, hw⟩ := hw
  have kl2 : ∀ (K2_38 : Int32 → Prop) (K2_30 : Int32 → Prop) (hk2_38 : ∀ (y3_2 : Int32) (ls : Array Slot), K2_38 y3_2 → lv_has ls 4 [(0, .ref hPl), (1, .int p0), (2, .int p1), (3, .int y3_2)] → W p l e (headSpec (wA yX1_find cX1_find 4 (some .int)) { frames := 0, cells := 0, slots := 0, locals := 0 }).room s m #[.ref hPl, .int p0, .int p1] below meth c s.heap [] 0 0 (MQ below (kSi Q) #[.ref hPl, .int p0, .int p1] s 0 0 (fun _ => False)) (F0 m 38 ls [])) (hk2_30 : ∀ (y3_2 : Int32) (ls : Array Slot), K2_30 y3_2 → lv_has ls 4 [(0, .ref hPl), (1, .int p0), (2, .int p1), (3, .int y3_2)] → W p l e (headSpec (wA yX1_find cX1_find 4 (some .int)) { frames := 0, cells := 0, slots := 0, locals := 0 }).room s m #[.ref hPl, .int p0, .int p1] below meth c s.heap [] 0 0 (MQ below (kSi Q) #[.ref hPl, .int p0, .int p1] s 0 0 (fun _ => False)) (F0 m 30 ls [])) (n : Nat) (y3_2 : Int32) (ls : Array Slot), wp_X1_find_L2 p0 p1 np Pl_pairCount Pl_lesser Pl_greater K2_38 K2_30 n y3_2 → lv_has ls 4 [(0, .ref hPl), (1, .int p0), (2, .int p1), (3, .int y3_2)] → W p l e (headSpec (wA yX1_find cX1_find 4 (some .int)) { frames := 0, cells := 0, slots := 0, locals := 0 }).room s m #[.ref hPl, .int p0, .int p1] below meth c s.heap [] 0 0 (MQ below (kSi Q) #[.ref hPl, .int p0, .int p1] s 0 0 (fun _ => False)) (F0 m 2 ls []) := by
    intro K2_38 K2_30 hk2_38 hk2_30 n
    induction n with
    | zero =>
      intro y3_2 ls hw
      exact hw.elim
    | succ n ih2 =>
      intro y3_2 ls hw hl
      unfold wp_X1_find_L2 at hw
      refine lv_iload_n hx hb dX1_find_2 rfl (lv_at hl 3 rfl) ?_
      refine lv_aload_n hx hb dX1_find_3 rfl (lv_at hl 0 rfl) ?_
      refine va_get (D := D) (ci := 1) (v := .int Pl_pairCount) (C := RX1) (T := TX1) (N := 12) hx hb hts inlX1 hown hK hP 0 rfl rfl 2 (by decide) (hts (.fieldLink RX1 23 "SquarePlanes$Planes" "pairCount" "I") mw_4_7) (fun _ h9 => h9) rfl dX1_find_4 ?_
      refine lv_icmp_ge (tgt := 38) hx hb dX1_find_7 (by decide) (fun c3_2 => ?_) (fun c3_2 => ?_)
      · have hw := hw.1 c3_2
        exact hk2_38 y3_2 ls hw (lv_sub hl [0, 1, 2, 3] rfl)
      · have hw := hw.2 c3_2
        refine lv_aload_n hx hb dX1_find_10 rfl (lv_at hl 0 rfl) ?_
        refine va_get (D := D) (ci := 1) (v := .ref hPl_lesser) (C := RX1) (T := TX1) (N := 12) hx hb hts inlX1 hown hK hP 0 rfl rfl 3 (by decide) (hts (.fieldLink RX1 26 "SquarePlanes$Planes" "lesser" "[I") mw_4_8) (fun _ h9 => h9) rfl dX1_find_11 ?_
        refine lv_iload_n hx hb dX1_find_14 rfl (lv_at hl 3 rfl) ?_
        refine va_iald hx hb hK hP 1 0 rfl rfl hw.1 dX1_find_15 ?_
        have hw := hw.2
        refine lv_iload_n hx hb dX1_find_16 rfl (lv_at hl 1 rfl) ?_
        refine lv_icmp_ne (tgt := 32) hx hb dX1_find_17 (by decide) (fun c2_2 => ?_) (fun c2_2 => ?_)
        · have hw := hw.2 c2_2
          refine lv_iinc (v := y3_2 + 1) (lv' := [(3, .int (y3_2 + 1)), (0, .ref hPl), (1, .int p0), (2, .int p1)]) hx hb dX1_find_32 hl (k := 3) rfl rfl (by decide) rfl (fun ls hl => ?_)
          refine lv_goto (tgt := 2) hx hb dX1_find_35 (by decide) ?_
          exact ih2 (y3_2 + 1) ls hw (lv_sub hl [1, 2, 3, 0] rfl)
        · have hw := hw.1 c2_2
          refine lv_aload_n hx hb dX1_find_20 rfl (lv_at hl 0 rfl) ?_
          refine va_get (D := D) (ci := 1) (v := .ref hPl_greater) (C := RX1) (T := TX1) (N := 12) hx hb hts inlX1 hown hK hP 0 rfl rfl 4 (by decide) (hts (.fieldLink RX1 30 "SquarePlanes$Planes" "greater" "[I") mw_4_9) (fun _ h9 => h9) rfl dX1_find_21 ?_
          refine lv_iload_n hx hb dX1_find_24 rfl (lv_at hl 3 rfl) ?_
          refine va_iald hx hb hK hP 2 0 rfl rfl hw.1 dX1_find_25 ?_
          have hw := hw.2
          refine lv_iload_n hx hb dX1_find_26 rfl (lv_at hl 2 rfl) ?_
          refine lv_icmp_ne (tgt := 32) hx hb dX1_find_27 (by decide) (fun c1_2 => ?_) (fun c1_2 => ?_)
          · have hw := hw.2 c1_2
            refine lv_iinc (v := y3_2 + 1) (lv' := [(3, .int (y3_2 + 1)), (0, .ref hPl), (1, .int p0), (2, .int p1)]) hx hb dX1_find_32 hl (k := 3) rfl rfl (by decide) rfl (fun ls hl => ?_)
            refine lv_goto (tgt := 2) hx hb dX1_find_35 (by decide) ?_
            exact ih2 (y3_2 + 1) ls hw (lv_sub hl [1, 2, 3, 0] rfl)
          · have hw := hw.1 c1_2
            exact hk2_30 y3_2 ls hw (lv_sub hl [0, 1, 2, 3] rfl)
  refine kl2 _ _ ?_ ?_ n2 0 ls hw (lv_sub hl [1, 2, 3, 0] rfl)
  · intro y3_2 ls hw hl
    refine lv_bipush (v := (-9)) hx hb dX1_find_38 (by decide) ?_
    exact W.iret (v := (-9)) hx hb hr (fun t ht hW => ⟨(-9), rfl, hw, ht⟩) (fun q h => by cases h) dX1_find_40
  · intro y3_2 ls hw hl
    refine lv_iload_n hx hb dX1_find_30 rfl (lv_at hl 3 rfl) ?_
    exact W.iret (v := y3_2) hx hb hr (fun t ht hW => ⟨y3_2, rfl, hw, ht⟩) (fun q h => by cases h) dX1_find_31
set_option maxHeartbeats 4000000 in
set_option maxRecDepth 100000 in
theorem k_X1_seenPairSign (l : Launch) (D : va_G) (cy : Nat → ClassId) (hPl hPl_lesser hPl_greater hPl_axisOf hPl_axisXs hPl_axisYs hPl_axisZs hPl_axisSquares hPl_poleSigns hPo np nq : Nat) (Pl_poleCount : Int32) (Pl_pairCount : Int32) (Pl_lesser : Nat → Int32) (Pl_greater : Nat → Int32) (Pl_axisOf : Nat → Int32) (Pl_axisXs : Nat → Int32) (Pl_axisYs : Nat → Int32) (Pl_axisZs : Nat → Int32) (Pl_axisSquares : Nat → Int32) (Pl_axisCount : Int32) (Pl_poleSigns : Nat → Int32) (p0 : Int32) (sz : Nat) (Q : Int32 → Prop) (hw : wp_X1_seenPairSign p0 np nq Pl_lesser Pl_greater Pl_poleSigns Q) : Met l yX1_seenPairSign (wA yX1_seenPairSign cX1_seenPairSign 2 (some .int)) { frames := 0, cells := 0, slots := 0, locals := 0 } (kPc [.ref hPl, .int p0] D cy (List.flatten [wPl cy hPl hPl_lesser hPl_greater hPl_axisOf hPl_axisXs hPl_axisYs hPl_axisZs hPl_axisSquares hPl_poleSigns hPo np nq Pl_poleCount Pl_pairCount Pl_lesser Pl_greater Pl_axisOf Pl_axisXs Pl_axisYs Pl_axisZs Pl_axisSquares Pl_axisCount Pl_poleSigns]) sz) (kSi Q) 0 0 (fun _ => False) := by
  refine Met.ofW (cc := cX1_seenPairSign) (maxL := 2) (ret := (some .int)) (by decide) rfl ?_
  intro p e s m args below meth c s₁ B hml hv
  obtain ⟨rfl, hsz, hN, hP, hK, hD0⟩ := hv
  have hx := B.exec
  have hb := B.bytes
  have hr := B.returns
  have hts0 := atoms_spec (ws := wA yX1_seenPairSign cX1_seenPairSign 2 (some .int)) B.pre
  have hts := fun w (h : w ∈ wsL_law) => hts0 w (List.mem_cons_of_mem _ h)
  have hown : s.vm.findClass RX1 = some m.cls := findClass_of_methodNamed B.named
  have hlocks := B.notSynchronized
  subst hsz
  have hD := hD0
  have hl := lv_entry ([.ref hPl, .int p0]) (n := 2) (Nat.le_of_ble_eq_true rfl)
  rw [lg_entry_eq]
  generalize (lg_sl ([.ref hPl, .int p0]) ++ List.replicate (2 - (lg_sl ([.ref hPl, .int p0])).length) Slot.unset).toArray = ls at hl ⊢
  have hl : lv_has ls 2 [(0, .ref hPl), (1, .int p0)] := hl
  unfold wp_X1_seenPairSign at hw
  refine lv_aload_n hx hb dX1_seenPairSign_0 rfl (lv_at hl 0 rfl) ?_
  refine va_get (D := D) (ci := 1) (v := .ref hPl_poleSigns) (C := RX1) (T := TX1) (N := 12) hx hb hts inlX1 hown hK hP 0 rfl rfl 11 (by decide) (hts (.fieldLink RX1 48 "SquarePlanes$Planes" "poleSigns" "[I") mw_4_15) (fun _ h9 => h9) rfl dX1_seenPairSign_1 ?_
  refine lv_aload_n hx hb dX1_seenPairSign_4 rfl (lv_at hl 0 rfl) ?_
  refine va_get (D := D) (ci := 1) (v := .ref hPl_lesser) (C := RX1) (T := TX1) (N := 12) hx hb hts inlX1 hown hK hP 0 rfl rfl 3 (by decide) (hts (.fieldLink RX1 26 "SquarePlanes$Planes" "lesser" "[I") mw_4_8) (fun _ h9 => h9) rfl dX1_seenPairSign_5 ?_
  refine lv_iload_n hx hb dX1_seenPairSign_8 rfl (lv_at hl 1 rfl) ?_
  refine va_iald hx hb hK hP 1 0 rfl rfl hw.1 dX1_seenPairSign_9 ?_
  have hw := hw.2
  refine va_iald hx hb hK hP 8 0 rfl rfl hw.1 dX1_seenPairSign_10 ?_
  have hw := hw.2
  refine lv_aload_n hx hb dX1_seenPairSign_11 rfl (lv_at hl 0 rfl) ?_
  refine va_get (D := D) (ci := 1) (v := .ref hPl_poleSigns) (C := RX1) (T := TX1) (N := 12) hx hb hts inlX1 hown hK hP 0 rfl rfl 11 (by decide) (hts (.fieldLink RX1 48 "SquarePlanes$Planes" "poleSigns" "[I") mw_4_15) (fun _ h9 => h9) rfl dX1_seenPairSign_12 ?_
  refine lv_aload_n hx hb dX1_seenPairSign_15 rfl (lv_at hl 0 rfl) ?_
  refine va_get (D := D) (ci := 1) (v := .ref hPl_greater) (C := RX1) (T := TX1) (N := 12) hx hb hts inlX1 hown hK hP 0 rfl rfl 4 (by decide) (hts (.fieldLink RX1 30 "SquarePlanes$Planes" "greater" "[I") mw_4_9) (fun _ h9 => h9) rfl dX1_seenPairSign_16 ?_
  refine lv_iload_n hx hb dX1_seenPairSign_19 rfl (lv_at hl 1 rfl) ?_
  refine va_iald hx hb hK hP 2 0 rfl rfl hw.1 dX1_seenPairSign_20 ?_
  have hw := hw.2
  refine va_iald hx hb hK hP 8 0 rfl rfl hw.1 dX1_seenPairSign_21 ?_
  have hw := hw.2
  refine lv_imul hx hb dX1_seenPairSign_22 ?_
  exact W.iret (v := (Pl_poleSigns (Pl_lesser p0.toNatClampNeg).toNatClampNeg) * (Pl_poleSigns (Pl_greater p0.toNatClampNeg).toNatClampNeg)) hx hb hr (fun t ht hW => ⟨(Pl_poleSigns (Pl_lesser p0.toNatClampNeg).toNatClampNeg) * (Pl_poleSigns (Pl_greater p0.toNatClampNeg).toNatClampNeg), rfl, hw, ht⟩) (fun q h => by cases h) dX1_seenPairSign_23
set_option maxHeartbeats 4000000 in
set_option maxRecDepth 100000 in
theorem k_X1_sense (l : Launch) (D : va_G) (cy : Nat → ClassId) (p0 : Int32) (sz : Nat) (Q : Int32 → Prop) (hw : wp_X1_sense p0 Q) : Met l yX1_sense (wA yX1_sense cX1_sense 1 (some .int)) { frames := 0, cells := 0, slots := 0, locals := 0 } (kPc [.int p0] D cy (List.flatten ([] : List va_W)) sz) (kSi Q) 0 0 (fun _ => False) := by
  refine Met.ofW (cc := cX1_sense) (maxL := 1) (ret := (some .int)) (by decide) rfl ?_
  intro p e s m args below meth c s₁ B hml hv
  obtain ⟨rfl, hsz, hN, hP, hK, hD0⟩ := hv
  have hx := B.exec
  have hb := B.bytes
  have hr := B.returns
  have hts0 := atoms_spec (ws := wA yX1_sense cX1_sense 1 (some .int)) B.pre
  have hts := fun w (h : w ∈ wsL_law) => hts0 w (List.mem_cons_of_mem _ h)
  have hown : s.vm.findClass RX1 = some m.cls := findClass_of_methodNamed B.named
  have hlocks := B.notSynchronized
  subst hsz
  have hD := hD0
  have hl := lv_entry ([.int p0]) (n := 1) (Nat.le_of_ble_eq_true rfl)
  rw [lg_entry_eq]
  generalize (lg_sl ([.int p0]) ++ List.replicate (1 - (lg_sl ([.int p0])).length) Slot.unset).toArray = ls at hl ⊢
  have hl : lv_has ls 1 [(0, .int p0)] := hl
  unfold wp_X1_sense at hw
  refine lv_iload_n hx hb dX1_sense_0 rfl (lv_at hl 0 rfl) ?_
  refine lv_iconst (v := 2) hx hb dX1_sense_1 (by decide) ?_
  refine lv_irem hx hb dX1_sense_2 (by decide) ?_
  refine lv_if_ne (tgt := 10) hx hb dX1_sense_3 (by decide) (fun c1 => ?_) (fun c1 => ?_)
  · have hw := hw.2 c1
    refine lv_iconst (v := (-1)) hx hb dX1_sense_10 (by decide) ?_
    exact W.iret (v := (-1)) hx hb hr (fun t ht hW => ⟨(-1), rfl, hw, ht⟩) (fun q h => by cases h) dX1_sense_11
  · have hw := hw.1 c1
    refine lv_iconst (v := 1) hx hb dX1_sense_6 (by decide) ?_
    refine lv_goto (tgt := 11) hx hb dX1_sense_7 (by decide) ?_
    exact W.iret (v := 1) hx hb hr (fun t ht hW => ⟨1, rfl, hw, ht⟩) (fun q h => by cases h) dX1_sense_11
set_option maxHeartbeats 4000000 in
set_option maxRecDepth 100000 in
theorem k_X1_axisDot (l : Launch) (D : va_G) (cy : Nat → ClassId) (hPl hPl_lesser hPl_greater hPl_axisOf hPl_axisXs hPl_axisYs hPl_axisZs hPl_axisSquares hPl_poleSigns hPo np nq : Nat) (Pl_poleCount : Int32) (Pl_pairCount : Int32) (Pl_lesser : Nat → Int32) (Pl_greater : Nat → Int32) (Pl_axisOf : Nat → Int32) (Pl_axisXs : Nat → Int32) (Pl_axisYs : Nat → Int32) (Pl_axisZs : Nat → Int32) (Pl_axisSquares : Nat → Int32) (Pl_axisCount : Int32) (Pl_poleSigns : Nat → Int32) (p0 : Int32) (p1 : Int32) (sz : Nat) (Q : Int32 → Prop) (hw : wp_X1_axisDot p0 p1 np nq Pl_axisXs Pl_axisYs Pl_axisZs Q) : Met l yX1_axisDot (wA yX1_axisDot cX1_axisDot 3 (some .int)) { frames := 0, cells := 0, slots := 0, locals := 0 } (kPc [.ref hPl, .int p0, .int p1] D cy (List.flatten [wPl cy hPl hPl_lesser hPl_greater hPl_axisOf hPl_axisXs hPl_axisYs hPl_axisZs hPl_axisSquares hPl_poleSigns hPo np nq Pl_poleCount Pl_pairCount Pl_lesser Pl_greater Pl_axisOf Pl_axisXs Pl_axisYs Pl_axisZs Pl_axisSquares Pl_axisCount Pl_poleSigns]) sz) (kSi Q) 0 0 (fun _ => False) := by
  refine Met.ofW (cc := cX1_axisDot) (maxL := 3) (ret := (some .int)) (by decide) rfl ?_
  intro p e s m args below meth c s₁ B hml hv
  obtain ⟨rfl, hsz, hN, hP, hK, hD0⟩ := hv
  have hx := B.exec
  have hb := B.bytes
  have hr := B.returns
  have hts0 := atoms_spec (ws := wA yX1_axisDot cX1_axisDot 3 (some .int)) B.pre
  have hts := fun w (h : w ∈ wsL_law) => hts0 w (List.mem_cons_of_mem _ h)
  have hown : s.vm.findClass RX1 = some m.cls := findClass_of_methodNamed B.named
  have hlocks := B.notSynchronized
  subst hsz
  have hD := hD0
  have hl := lv_entry ([.ref hPl, .int p0, .int p1]) (n := 3) (Nat.le_of_ble_eq_true rfl)
  rw [lg_entry_eq]
  generalize (lg_sl ([.ref hPl, .int p0, .int p1]) ++ List.replicate (3 - (lg_sl ([.ref hPl, .int p0, .int p1])).length) Slot.unset).toArray = ls at hl ⊢
  have hl : lv_has ls 3 [(0, .ref hPl), (1, .int p0), (2, .int p1)] := hl
  unfold wp_X1_axisDot at hw
  refine lv_aload_n hx hb dX1_axisDot_0 rfl (lv_at hl 0 rfl) ?_
  refine va_get (D := D) (ci := 1) (v := .ref hPl_axisXs) (C := RX1) (T := TX1) (N := 12) hx hb hts inlX1 hown hK hP 0 rfl rfl 6 (by decide) (hts (.fieldLink RX1 36 "SquarePlanes$Planes" "axisXs" "[I") mw_4_11) (fun _ h9 => h9) rfl dX1_axisDot_1 ?_
  refine lv_iload_n hx hb dX1_axisDot_4 rfl (lv_at hl 1 rfl) ?_
  refine va_iald hx hb hK hP 4 0 rfl rfl hw.1 dX1_axisDot_5 ?_
  have hw := hw.2
  refine lv_aload_n hx hb dX1_axisDot_6 rfl (lv_at hl 0 rfl) ?_
  refine va_get (D := D) (ci := 1) (v := .ref hPl_axisXs) (C := RX1) (T := TX1) (N := 12) hx hb hts inlX1 hown hK hP 0 rfl rfl 6 (by decide) (hts (.fieldLink RX1 36 "SquarePlanes$Planes" "axisXs" "[I") mw_4_11) (fun _ h9 => h9) rfl dX1_axisDot_7 ?_
  refine lv_iload_n hx hb dX1_axisDot_10 rfl (lv_at hl 2 rfl) ?_
  refine va_iald hx hb hK hP 4 0 rfl rfl hw.1 dX1_axisDot_11 ?_
  have hw := hw.2
  refine lv_imul hx hb dX1_axisDot_12 ?_
  refine lv_aload_n hx hb dX1_axisDot_13 rfl (lv_at hl 0 rfl) ?_
  refine va_get (D := D) (ci := 1) (v := .ref hPl_axisYs) (C := RX1) (T := TX1) (N := 12) hx hb hts inlX1 hown hK hP 0 rfl rfl 7 (by decide) (hts (.fieldLink RX1 39 "SquarePlanes$Planes" "axisYs" "[I") mw_4_12) (fun _ h9 => h9) rfl dX1_axisDot_14 ?_
  refine lv_iload_n hx hb dX1_axisDot_17 rfl (lv_at hl 1 rfl) ?_
  refine va_iald hx hb hK hP 5 0 rfl rfl hw.1 dX1_axisDot_18 ?_
  have hw := hw.2
  refine lv_aload_n hx hb dX1_axisDot_19 rfl (lv_at hl 0 rfl) ?_
  refine va_get (D := D) (ci := 1) (v := .ref hPl_axisYs) (C := RX1) (T := TX1) (N := 12) hx hb hts inlX1 hown hK hP 0 rfl rfl 7 (by decide) (hts (.fieldLink RX1 39 "SquarePlanes$Planes" "axisYs" "[I") mw_4_12) (fun _ h9 => h9) rfl dX1_axisDot_20 ?_
  refine lv_iload_n hx hb dX1_axisDot_23 rfl (lv_at hl 2 rfl) ?_
  refine va_iald hx hb hK hP 5 0 rfl rfl hw.1 dX1_axisDot_24 ?_
  have hw := hw.2
  refine lv_imul hx hb dX1_axisDot_25 ?_
  refine lv_iadd hx hb dX1_axisDot_26 ?_
  refine lv_aload_n hx hb dX1_axisDot_27 rfl (lv_at hl 0 rfl) ?_
  refine va_get (D := D) (ci := 1) (v := .ref hPl_axisZs) (C := RX1) (T := TX1) (N := 12) hx hb hts inlX1 hown hK hP 0 rfl rfl 8 (by decide) (hts (.fieldLink RX1 42 "SquarePlanes$Planes" "axisZs" "[I") mw_4_13) (fun _ h9 => h9) rfl dX1_axisDot_28 ?_
  refine lv_iload_n hx hb dX1_axisDot_31 rfl (lv_at hl 1 rfl) ?_
  refine va_iald hx hb hK hP 6 0 rfl rfl hw.1 dX1_axisDot_32 ?_
  have hw := hw.2
  refine lv_aload_n hx hb dX1_axisDot_33 rfl (lv_at hl 0 rfl) ?_
  refine va_get (D := D) (ci := 1) (v := .ref hPl_axisZs) (C := RX1) (T := TX1) (N := 12) hx hb hts inlX1 hown hK hP 0 rfl rfl 8 (by decide) (hts (.fieldLink RX1 42 "SquarePlanes$Planes" "axisZs" "[I") mw_4_13) (fun _ h9 => h9) rfl dX1_axisDot_34 ?_
  refine lv_iload_n hx hb dX1_axisDot_37 rfl (lv_at hl 2 rfl) ?_
  refine va_iald hx hb hK hP 6 0 rfl rfl hw.1 dX1_axisDot_38 ?_
  have hw := hw.2
  refine lv_imul hx hb dX1_axisDot_39 ?_
  refine lv_iadd hx hb dX1_axisDot_40 ?_
  exact W.iret (v := (((Pl_axisXs p0.toNatClampNeg) * (Pl_axisXs p1.toNatClampNeg)) + ((Pl_axisYs p0.toNatClampNeg) * (Pl_axisYs p1.toNatClampNeg))) + ((Pl_axisZs p0.toNatClampNeg) * (Pl_axisZs p1.toNatClampNeg))) hx hb hr (fun t ht hW => ⟨(((Pl_axisXs p0.toNatClampNeg) * (Pl_axisXs p1.toNatClampNeg)) + ((Pl_axisYs p0.toNatClampNeg) * (Pl_axisYs p1.toNatClampNeg))) + ((Pl_axisZs p0.toNatClampNeg) * (Pl_axisZs p1.toNatClampNeg)), rfl, hw, ht⟩) (fun q h => by cases h) dX1_axisDot_41
set_option maxHeartbeats 4000000 in
set_option maxRecDepth 100000 in
theorem k_X1_apartLower (l : Launch) (D : va_G) (cy : Nat → ClassId) (hPl hPl_lesser hPl_greater hPl_axisOf hPl_axisXs hPl_axisYs hPl_axisZs hPl_axisSquares hPl_poleSigns hPo np nq : Nat) (Pl_poleCount : Int32) (Pl_pairCount : Int32) (Pl_lesser : Nat → Int32) (Pl_greater : Nat → Int32) (Pl_axisOf : Nat → Int32) (Pl_axisXs : Nat → Int32) (Pl_axisYs : Nat → Int32) (Pl_axisZs : Nat → Int32) (Pl_axisSquares : Nat → Int32) (Pl_axisCount : Int32) (Pl_poleSigns : Nat → Int32) (p0 : Int32) (p1 : Int32) (sz : Nat) (Q : Int32 → Prop) (hw : wp_X1_apartLower p0 p1 np nq Pl_axisSquares Q) : Met l yX1_apartLower (wA yX1_apartLower cX1_apartLower 3 (some .int)) { frames := 0, cells := 0, slots := 0, locals := 0 } (kPc [.ref hPl, .int p0, .int p1] D cy (List.flatten [wPl cy hPl hPl_lesser hPl_greater hPl_axisOf hPl_axisXs hPl_axisYs hPl_axisZs hPl_axisSquares hPl_poleSigns hPo np nq Pl_poleCount Pl_pairCount Pl_lesser Pl_greater Pl_axisOf Pl_axisXs Pl_axisYs Pl_axisZs Pl_axisSquares Pl_axisCount Pl_poleSigns]) sz) (kSi Q) 0 0 (fun _ => False) := by
  refine Met.ofW (cc := cX1_apartLower) (maxL := 3) (ret := (some .int)) (by decide) rfl ?_
  intro p e s m args below meth c s₁ B hml hv
  obtain ⟨rfl, hsz, hN, hP, hK, hD0⟩ := hv
  have hx := B.exec
  have hb := B.bytes
  have hr := B.returns
  have hts0 := atoms_spec (ws := wA yX1_apartLower cX1_apartLower 3 (some .int)) B.pre
  have hts := fun w (h : w ∈ wsL_law) => hts0 w (List.mem_cons_of_mem _ h)
  have hown : s.vm.findClass RX1 = some m.cls := findClass_of_methodNamed B.named
  have hlocks := B.notSynchronized
  subst hsz
  have hD := hD0
  have hl := lv_entry ([.ref hPl, .int p0, .int p1]) (n := 3) (Nat.le_of_ble_eq_true rfl)
  rw [lg_entry_eq]
  generalize (lg_sl ([.ref hPl, .int p0, .int p1]) ++ List.replicate (3 - (lg_sl ([.ref hPl, .int p0, .int p1])).length) Slot.unset).toArray = ls at hl ⊢
  have hl : lv_has ls 3 [(0, .ref hPl), (1, .int p0), (2, .int p1)] := hl
  unfold wp_X1_apartLower at hw
  refine lv_aload_n hx hb dX1_apartLower_0 rfl (lv_at hl 0 rfl) ?_
  refine va_get (D := D) (ci := 1) (v := .ref hPl_axisSquares) (C := RX1) (T := TX1) (N := 12) hx hb hts inlX1 hown hK hP 0 rfl rfl 9 (by decide) (hts (.fieldLink RX1 45 "SquarePlanes$Planes" "axisSquares" "[I") mw_4_14) (fun _ h9 => h9) rfl dX1_apartLower_1 ?_
  refine lv_iload_n hx hb dX1_apartLower_4 rfl (lv_at hl 1 rfl) ?_
  refine va_iald hx hb hK hP 7 0 rfl rfl hw.1 dX1_apartLower_5 ?_
  have hw := hw.2
  refine lv_aload_n hx hb dX1_apartLower_6 rfl (lv_at hl 0 rfl) ?_
  refine va_get (D := D) (ci := 1) (v := .ref hPl_axisSquares) (C := RX1) (T := TX1) (N := 12) hx hb hts inlX1 hown hK hP 0 rfl rfl 9 (by decide) (hts (.fieldLink RX1 45 "SquarePlanes$Planes" "axisSquares" "[I") mw_4_14) (fun _ h9 => h9) rfl dX1_apartLower_7 ?_
  refine lv_iload_n hx hb dX1_apartLower_10 rfl (lv_at hl 2 rfl) ?_
  refine va_iald hx hb hK hP 7 0 rfl rfl hw.1 dX1_apartLower_11 ?_
  have hw := hw.2
  refine lv_imul hx hb dX1_apartLower_12 ?_
  exact W.iret (v := (Pl_axisSquares p0.toNatClampNeg) * (Pl_axisSquares p1.toNatClampNeg)) hx hb hr (fun t ht hW => ⟨(Pl_axisSquares p0.toNatClampNeg) * (Pl_axisSquares p1.toNatClampNeg), rfl, hw, ht⟩) (fun q h => by cases h) dX1_apartLower_13
set_option maxHeartbeats 4000000 in
set_option maxRecDepth 100000 in
theorem k_X2_reaches (l : Launch) (D : va_G) (cy : Nat → ClassId) (p0 : Int32) (p1 : Int32) (p2 : Int32) (p3 : Int32) (sz : Nat) (Q : Int32 → Prop) (hw : wp_X2_reaches p0 p1 p2 p3 Q) : Met l yX2_reaches (wA yX2_reaches cX2_reaches 4 (some .boolean)) { frames := 1, cells := 0, slots := 0, locals := 21 } (kPc [.int p0, .int p1, .int p2, .int p3] D cy (List.flatten ([] : List va_W)) sz) (kSi Q) 0 0 (fun _ => False) := by
  refine Met.ofW (cc := cX2_reaches) (maxL := 4) (ret := (some .boolean)) (by decide) rfl ?_
  intro p e s m args below meth c s₁ B hml hv
  obtain ⟨rfl, hsz, hN, hP, hK, hD0⟩ := hv
  have hx := B.exec
  have hb := B.bytes
  have hr := B.returns
  have hts0 := atoms_spec (ws := wA yX2_reaches cX2_reaches 4 (some .boolean)) B.pre
  have hts := fun w (h : w ∈ wsL_law) => hts0 w (List.mem_cons_of_mem _ h)
  have hown : s.vm.findClass RX2 = some m.cls := findClass_of_methodNamed B.named
  have hlocks := B.notSynchronized
  subst hsz
  have hD := hD0
  have hl := lv_entry ([.int p0, .int p1, .int p2, .int p3]) (n := 4) (Nat.le_of_ble_eq_true rfl)
  rw [lg_entry_eq]
  generalize (lg_sl ([.int p0, .int p1, .int p2, .int p3]) ++ List.replicate (4 - (lg_sl ([.int p0, .int p1, .int p2, .int p3])).length) Slot.unset).toArray = ls at hl ⊢
  have hl : lv_has ls 4 [(0, .int p0), (1, .int p1), (2, .int p2), (3, .int p3)] := hl
  unfold wp_X2_reaches at hw
  refine lv_iload_n hx hb dX2_reaches_0 rfl (lv_at hl 1 rfl) ?_
  refine lv_iload_n hx hb dX2_reaches_1 rfl (lv_at hl 0 rfl) ?_
  refine lv_icmp_eq (tgt := 21) hx hb dX2_reaches_2 (by decide) (fun c5 => ?_) (fun c5 => ?_)
  · have hw := hw.1 c5
    refine lv_iconst (v := 1) hx hb dX2_reaches_21 (by decide) ?_
    refine lv_goto (tgt := 26) hx hb dX2_reaches_22 (by decide) ?_
    exact W.zret (v := 1) hx hb hr rfl (fun t ht hW => ⟨1, rfl, hw, ht⟩) (fun q h => by cases h) dX2_reaches_26
  · have hw := hw.2 c5
    refine lv_iload_n hx hb dX2_reaches_5 rfl (lv_at hl 2 rfl) ?_
    refine va_mabs hx hb (by rw [hml]; exact hl.1.symm) hown (hts (.methodLink RX2 40 Lib.Math.abs.name) mw_3_11) (hts (.static Lib.Math.abs.name) mw_3_12) (hts (.initialized "java/lang/Math") mw_3_13) (hts (.code Lib.Math.abs.name Lib.Math.abs.code 1 (some .int)) mw_3_14) (Nat.le_of_ble_eq_true rfl) (Nat.le_of_ble_eq_true rfl) (Nat.zero_le _) (Nat.zero_le _) dX2_reaches_6 ?_
    refine lv_topi (fun x1 ex1 => ?_)
    have hw := hw x1 ex1
    refine lv_iload_n hx hb dX2_reaches_9 rfl (lv_at hl 0 rfl) ?_
    refine lv_icmp_eq (tgt := 21) hx hb dX2_reaches_10 (by decide) (fun c4 => ?_) (fun c4 => ?_)
    · have hw := hw.1 c4
      refine lv_iconst (v := 1) hx hb dX2_reaches_21 (by decide) ?_
      refine lv_goto (tgt := 26) hx hb dX2_reaches_22 (by decide) ?_
      exact W.zret (v := 1) hx hb hr rfl (fun t ht hW => ⟨1, rfl, hw, ht⟩) (fun q h => by cases h) dX2_reaches_26
    · have hw := hw.2 c4
      refine lv_iload_n hx hb dX2_reaches_13 rfl (lv_at hl 3 rfl) ?_
      refine va_mabs hx hb (by rw [hml]; exact hl.1.symm) hown (hts (.methodLink RX2 40 Lib.Math.abs.name) mw_3_11) (hts (.static Lib.Math.abs.name) mw_3_12) (hts (.initialized "java/lang/Math") mw_3_13) (hts (.code Lib.Math.abs.name Lib.Math.abs.code 1 (some .int)) mw_3_14) (Nat.le_of_ble_eq_true rfl) (Nat.le_of_ble_eq_true rfl) (Nat.zero_le _) (Nat.zero_le _) dX2_reaches_14 ?_
      refine lv_topi (fun x2 ex2 => ?_)
      have hw := hw x2 ex2
      refine lv_iload_n hx hb dX2_reaches_17 rfl (lv_at hl 0 rfl) ?_
      refine lv_icmp_ne (tgt := 25) hx hb dX2_reaches_18 (by decide) (fun c3 => ?_) (fun c3 => ?_)
      · have hw := hw.2 c3
        refine lv_iconst (v := 0) hx hb dX2_reaches_25 (by decide) ?_
        exact W.zret (v := 0) hx hb hr rfl (fun t ht hW => ⟨0, rfl, hw, ht⟩) (fun q h => by cases h) dX2_reaches_26
      · have hw := hw.1 c3
        refine lv_iconst (v := 1) hx hb dX2_reaches_21 (by decide) ?_
        refine lv_goto (tgt := 26) hx hb dX2_reaches_22 (by decide) ?_
        exact W.zret (v := 1) hx hb hr rfl (fun t ht hW => ⟨1, rfl, hw, ht⟩) (fun q h => by cases h) dX2_reaches_26
set_option maxHeartbeats 4000000 in
set_option maxRecDepth 100000 in
theorem k_X2_find (l : Launch) (D : va_G) (cy : Nat → ClassId) (hPo hPo_xs hPo_ys hPo_zs hPo_countUpTo : Nat) (Po_xs : Nat → Int32) (Po_ys : Nat → Int32) (Po_zs : Nat → Int32) (Po_countUpTo : Nat → Int32) (Po_count : Int32) (p0 : Int32) (p1 : Int32) (p2 : Int32) (p3 : Int32) (sz : Nat) (Q : Int32 → Prop) (hw : wp_X2_find p0 p1 p2 p3 Po_xs Po_ys Po_zs Q) : Met l yX2_find (wA yX2_find cX2_find 6 (some .int)) { frames := 0, cells := 0, slots := 0, locals := 0 } (kPc [.ref hPo, .int p0, .int p1, .int p2, .int p3] D cy (List.flatten [wPo cy hPo hPo_xs hPo_ys hPo_zs hPo_countUpTo Po_xs Po_ys Po_zs Po_countUpTo Po_count]) sz) (kSi Q) 0 0 (fun _ => False) := by
  refine Met.ofW (cc := cX2_find) (maxL := 6) (ret := (some .int)) (by decide) rfl ?_
  intro p e s m args below meth c s₁ B hml hv
  obtain ⟨rfl, hsz, hN, hP, hK, hD0⟩ := hv
  have hx := B.exec
  have hb := B.bytes
  have hr := B.returns
  have hts0 := atoms_spec (ws := wA yX2_find cX2_find 6 (some .int)) B.pre
  have hts := fun w (h : w ∈ wsL_law) => hts0 w (List.mem_cons_of_mem _ h)
  have hown : s.vm.findClass RX2 = some m.cls := findClass_of_methodNamed B.named
  have hlocks := B.notSynchronized
  subst hsz
  have hD := hD0
  have hl := lv_entry ([.ref hPo, .int p0, .int p1, .int p2, .int p3]) (n := 6) (Nat.le_of_ble_eq_true rfl)
  rw [lg_entry_eq]
  generalize (lg_sl ([.ref hPo, .int p0, .int p1, .int p2, .int p3]) ++ List.replicate (6 - (lg_sl ([.ref hPo, .int p0, .int p1, .int p2, .int p3])).length) Slot.unset).toArray = ls at hl ⊢
  have hl : lv_has ls 6 [(0, .ref hPo), (1, .int p0), (2, .int p1), (3, .int p2), (4, .int p3)] := hl
  unfold wp_X2_find at hw
  refine lv_iconst (v := 0) hx hb dX2_find_0 (by decide) ?_
  refine lv_istore (lv' := [(5, .int 0), (0, .ref hPo), (1, .int p0), (2, .int p1), (3, .int p2), (4, .int p3)]) hx hb dX2_find_1 hl (by decide) rfl (fun ls hl => ?_)
  obtain ⟨n3, hw⟩ := hw
  have kl3 : ∀ (K3_52 : Int32 → Prop) (K3_43 : Int32 → Prop) (hk3_52 : ∀ (y5_3 : Int32) (ls : Array Slot), K3_52 y5_3 → lv_has ls 6 [(0, .ref hPo), (1, .int p0), (2, .int p1), (3, .int p2), (4, .int p3), (5, .int y5_3)] → W p l e (headSpec (wA yX2_find cX2_find 6 (some .int)) { frames := 0, cells := 0, slots := 0, locals := 0 }).room s m #[.ref hPo, .int p0, .int p1, .int p2, .int p3] below meth c s.heap [] 0 0 (MQ below (kSi Q) #[.ref hPo, .int p0, .int p1, .int p2, .int p3] s 0 0 (fun _ => False)) (F0 m 52 ls [])) (hk3_43 : ∀ (y5_3 : Int32) (ls : Array Slot), K3_43 y5_3 → lv_has ls 6 [(0, .ref hPo), (1, .int p0), (2, .int p1), (3, .int p2), (4, .int p3), (5, .int y5_3)] → W p l e (headSpec (wA yX2_find cX2_find 6 (some .int)) { frames := 0, cells := 0, slots := 0, locals := 0 }).room s m #[.ref hPo, .int p0, .int p1, .int p2, .int p3] below meth c s.heap [] 0 0 (MQ below (kSi Q) #[.ref hPo, .int p0, .int p1, .int p2, .int p3] s 0 0 (fun _ => False)) (F0 m 43 ls [])) (n : Nat) (y5_3 : Int32) (ls : Array Slot), wp_X2_find_L3 p0 p1 p2 p3 Po_xs Po_ys Po_zs K3_52 K3_43 n y5_3 → lv_has ls 6 [(0, .ref hPo), (1, .int p0), (2, .int p1), (3, .int p2), (4, .int p3), (5, .int y5_3)] → W p l e (headSpec (wA yX2_find cX2_find 6 (some .int)) { frames := 0, cells := 0, slots := 0, locals := 0 }).room s m #[.ref hPo, .int p0, .int p1, .int p2, .int p3] below meth c s.heap [] 0 0 (MQ below (kSi Q) #[.ref hPo, .int p0, .int p1, .int p2, .int p3] s 0 0 (fun _ => False)) (F0 m 3 ls []) := by
    intro K3_52 K3_43 hk3_52 hk3_43 n
    induction n with
    | zero =>
      intro y5_3 ls hw
      exact hw.elim
    | succ n ih3 =>
      intro y5_3 ls hw hl
      unfold wp_X2_find_L3 at hw
      refine lv_iload hx hb dX2_find_3 (lv_at hl 5 rfl) ?_
      refine lv_iload hx hb dX2_find_5 (lv_at hl 4 rfl) ?_
      refine lv_icmp_ge (tgt := 52) hx hb dX2_find_7 (by decide) (fun c4_3 => ?_) (fun c4_3 => ?_)
      · have hw := hw.1 c4_3
        exact hk3_52 y5_3 ls hw (lv_sub hl [0, 1, 2, 3, 4, 5] rfl)
      · have hw := hw.2 c4_3
        refine lv_aload_n hx hb dX2_find_10 rfl (lv_at hl 0 rfl) ?_
        refine va_get (D := D) (ci := 2) (v := .ref hPo_xs) (C := RX2) (T := TX2) (N := 5) hx hb hts inlX2 hown hK hP 0 rfl rfl 0 (by decide) (hts (.fieldLink RX2 9 "SquarePlanes$Poles" "xs" "[I") mw_2_23) (fun _ h9 => h9) rfl dX2_find_11 ?_
        refine lv_iload hx hb dX2_find_14 (lv_at hl 5 rfl) ?_
        refine va_iald hx hb hK hP 1 0 rfl rfl hw.1 dX2_find_16 ?_
        have hw := hw.2
        refine lv_iload_n hx hb dX2_find_17 rfl (lv_at hl 1 rfl) ?_
        refine lv_icmp_ne (tgt := 46) hx hb dX2_find_18 (by decide) (fun c3_3 => ?_) (fun c3_3 => ?_)
        · have hw := hw.2 c3_3
          refine lv_iinc (v := y5_3 + 1) (lv' := [(5, .int (y5_3 + 1)), (0, .ref hPo), (1, .int p0), (2, .int p1), (3, .int p2), (4, .int p3)]) hx hb dX2_find_46 hl (k := 5) rfl rfl (by decide) rfl (fun ls hl => ?_)
          refine lv_goto (tgt := 3) hx hb dX2_find_49 (by decide) ?_
          exact ih3 (y5_3 + 1) ls hw (lv_sub hl [1, 2, 3, 4, 5, 0] rfl)
        · have hw := hw.1 c3_3
          refine lv_aload_n hx hb dX2_find_21 rfl (lv_at hl 0 rfl) ?_
          refine va_get (D := D) (ci := 2) (v := .ref hPo_ys) (C := RX2) (T := TX2) (N := 5) hx hb hts inlX2 hown hK hP 0 rfl rfl 1 (by decide) (hts (.fieldLink RX2 15 "SquarePlanes$Poles" "ys" "[I") mw_3_0) (fun _ h9 => h9) rfl dX2_find_22 ?_
          refine lv_iload hx hb dX2_find_25 (lv_at hl 5 rfl) ?_
          refine va_iald hx hb hK hP 2 0 rfl rfl hw.1 dX2_find_27 ?_
          have hw := hw.2
          refine lv_iload_n hx hb dX2_find_28 rfl (lv_at hl 2 rfl) ?_
          refine lv_icmp_ne (tgt := 46) hx hb dX2_find_29 (by decide) (fun c2_3 => ?_) (fun c2_3 => ?_)
          · have hw := hw.2 c2_3
            refine lv_iinc (v := y5_3 + 1) (lv' := [(5, .int (y5_3 + 1)), (0, .ref hPo), (1, .int p0), (2, .int p1), (3, .int p2), (4, .int p3)]) hx hb dX2_find_46 hl (k := 5) rfl rfl (by decide) rfl (fun ls hl => ?_)
            refine lv_goto (tgt := 3) hx hb dX2_find_49 (by decide) ?_
            exact ih3 (y5_3 + 1) ls hw (lv_sub hl [1, 2, 3, 4, 5, 0] rfl)
          · have hw := hw.1 c2_3
            refine lv_aload_n hx hb dX2_find_32 rfl (lv_at hl 0 rfl) ?_
            refine va_get (D := D) (ci := 2) (v := .ref hPo_zs) (C := RX2) (T := TX2) (N := 5) hx hb hts inlX2 hown hK hP 0 rfl rfl 2 (by decide) (hts (.fieldLink RX2 18 "SquarePlanes$Poles" "zs" "[I") mw_3_1) (fun _ h9 => h9) rfl dX2_find_33 ?_
            refine lv_iload hx hb dX2_find_36 (lv_at hl 5 rfl) ?_
            refine va_iald hx hb hK hP 3 0 rfl rfl hw.1 dX2_find_38 ?_
            have hw := hw.2
            refine lv_iload_n hx hb dX2_find_39 rfl (lv_at hl 3 rfl) ?_
            refine lv_icmp_ne (tgt := 46) hx hb dX2_find_40 (by decide) (fun c1_3 => ?_) (fun c1_3 => ?_)
            · have hw := hw.2 c1_3
              refine lv_iinc (v := y5_3 + 1) (lv' := [(5, .int (y5_3 + 1)), (0, .ref hPo), (1, .int p0), (2, .int p1), (3, .int p2), (4, .int p3)]) hx hb dX2_find_46 hl (k := 5) rfl rfl (by decide) rfl (fun ls hl => ?_)
              refine lv_goto (tgt := 3) hx hb dX2_find_49 (by decide) ?_
              exact ih3 (y5_3 + 1) ls hw (lv_sub hl [1, 2, 3, 4, 5, 0] rfl)
            · have hw := hw.1 c1_3
              exact hk3_43 y5_3 ls hw (lv_sub hl [0, 1, 2, 3, 4, 5] rfl)
  refine kl3 _ _ ?_ ?_ n3 0 ls hw (lv_sub hl [1, 2, 3, 4, 5, 0] rfl)
  · intro y5_3 ls hw hl
    refine lv_bipush (v := (-9)) hx hb dX2_find_52 (by decide) ?_
    exact W.iret (v := (-9)) hx hb hr (fun t ht hW => ⟨(-9), rfl, hw, ht⟩) (fun q h => by cases h) dX2_find_54
  · intro y5_3 ls hw hl
    refine lv_iload hx hb dX2_find_43 (lv_at hl 5 rfl) ?_
    exact W.iret (v := y5_3) hx hb hr (fun t ht hW => ⟨y5_3, rfl, hw, ht⟩) (fun q h => by cases h) dX2_find_45
set_option maxHeartbeats 4000000 in
set_option maxRecDepth 100000 in
theorem k_X2_dot (l : Launch) (D : va_G) (cy : Nat → ClassId) (hPo hPo_xs hPo_ys hPo_zs hPo_countUpTo : Nat) (Po_xs : Nat → Int32) (Po_ys : Nat → Int32) (Po_zs : Nat → Int32) (Po_countUpTo : Nat → Int32) (Po_count : Int32) (p0 : Int32) (p1 : Int32) (p2 : Int32) (p3 : Int32) (sz : Nat) (Q : Int32 → Prop) (hw : wp_X2_dot p0 p1 p2 p3 Po_xs Po_ys Po_zs Q) : Met l yX2_dot (wA yX2_dot cX2_dot 5 (some .int)) { frames := 0, cells := 0, slots := 0, locals := 0 } (kPc [.ref hPo, .int p0, .int p1, .int p2, .int p3] D cy (List.flatten [wPo cy hPo hPo_xs hPo_ys hPo_zs hPo_countUpTo Po_xs Po_ys Po_zs Po_countUpTo Po_count]) sz) (kSi Q) 0 0 (fun _ => False) := by
  refine Met.ofW (cc := cX2_dot) (maxL := 5) (ret := (some .int)) (by decide) rfl ?_
  intro p e s m args below meth c s₁ B hml hv
  obtain ⟨rfl, hsz, hN, hP, hK, hD0⟩ := hv
  have hx := B.exec
  have hb := B.bytes
  have hr := B.returns
  have hts0 := atoms_spec (ws := wA yX2_dot cX2_dot 5 (some .int)) B.pre
  have hts := fun w (h : w ∈ wsL_law) => hts0 w (List.mem_cons_of_mem _ h)
  have hown : s.vm.findClass RX2 = some m.cls := findClass_of_methodNamed B.named
  have hlocks := B.notSynchronized
  subst hsz
  have hD := hD0
  have hl := lv_entry ([.ref hPo, .int p0, .int p1, .int p2, .int p3]) (n := 5) (Nat.le_of_ble_eq_true rfl)
  rw [lg_entry_eq]
  generalize (lg_sl ([.ref hPo, .int p0, .int p1, .int p2, .int p3]) ++ List.replicate (5 - (lg_sl ([.ref hPo, .int p0, .int p1, .int p2, .int p3])).length) Slot.unset).toArray = ls at hl ⊢
  have hl : lv_has ls 5 [(0, .ref hPo), (1, .int p0), (2, .int p1), (3, .int p2), (4, .int p3)] := hl
  unfold wp_X2_dot at hw
  refine lv_aload_n hx hb dX2_dot_0 rfl (lv_at hl 0 rfl) ?_
  refine va_get (D := D) (ci := 2) (v := .ref hPo_xs) (C := RX2) (T := TX2) (N := 5) hx hb hts inlX2 hown hK hP 0 rfl rfl 0 (by decide) (hts (.fieldLink RX2 9 "SquarePlanes$Poles" "xs" "[I") mw_2_23) (fun _ h9 => h9) rfl dX2_dot_1 ?_
  refine lv_iload_n hx hb dX2_dot_4 rfl (lv_at hl 1 rfl) ?_
  refine va_iald hx hb hK hP 1 0 rfl rfl hw.1 dX2_dot_5 ?_
  have hw := hw.2
  refine lv_iload_n hx hb dX2_dot_6 rfl (lv_at hl 2 rfl) ?_
  refine lv_imul hx hb dX2_dot_7 ?_
  refine lv_aload_n hx hb dX2_dot_8 rfl (lv_at hl 0 rfl) ?_
  refine va_get (D := D) (ci := 2) (v := .ref hPo_ys) (C := RX2) (T := TX2) (N := 5) hx hb hts inlX2 hown hK hP 0 rfl rfl 1 (by decide) (hts (.fieldLink RX2 15 "SquarePlanes$Poles" "ys" "[I") mw_3_0) (fun _ h9 => h9) rfl dX2_dot_9 ?_
  refine lv_iload_n hx hb dX2_dot_12 rfl (lv_at hl 1 rfl) ?_
  refine va_iald hx hb hK hP 2 0 rfl rfl hw.1 dX2_dot_13 ?_
  have hw := hw.2
  refine lv_iload_n hx hb dX2_dot_14 rfl (lv_at hl 3 rfl) ?_
  refine lv_imul hx hb dX2_dot_15 ?_
  refine lv_iadd hx hb dX2_dot_16 ?_
  refine lv_aload_n hx hb dX2_dot_17 rfl (lv_at hl 0 rfl) ?_
  refine va_get (D := D) (ci := 2) (v := .ref hPo_zs) (C := RX2) (T := TX2) (N := 5) hx hb hts inlX2 hown hK hP 0 rfl rfl 2 (by decide) (hts (.fieldLink RX2 18 "SquarePlanes$Poles" "zs" "[I") mw_3_1) (fun _ h9 => h9) rfl dX2_dot_18 ?_
  refine lv_iload_n hx hb dX2_dot_21 rfl (lv_at hl 1 rfl) ?_
  refine va_iald hx hb hK hP 3 0 rfl rfl hw.1 dX2_dot_22 ?_
  have hw := hw.2
  refine lv_iload hx hb dX2_dot_23 (lv_at hl 4 rfl) ?_
  refine lv_imul hx hb dX2_dot_25 ?_
  refine lv_iadd hx hb dX2_dot_26 ?_
  exact W.iret (v := (((Po_xs p0.toNatClampNeg) * p1) + ((Po_ys p0.toNatClampNeg) * p2)) + ((Po_zs p0.toNatClampNeg) * p3)) hx hb hr (fun t ht hW => ⟨(((Po_xs p0.toNatClampNeg) * p1) + ((Po_ys p0.toNatClampNeg) * p2)) + ((Po_zs p0.toNatClampNeg) * p3), rfl, hw, ht⟩) (fun q h => by cases h) dX2_dot_27
set_option maxHeartbeats 4000000 in
set_option maxRecDepth 100000 in
theorem k_X3_isKept (l : Launch) (D : va_G) (cy : Nat → ClassId) (hRa hRa_misfits hRa_nodals hRa_order hRa_places hRa_counted hRa_begins hPl hBu ns nn : Nat) (Ra_misfits : Nat → Int32) (Ra_nodals : Nat → Int32) (Ra_order : Nat → Int32) (Ra_places : Nat → Int32) (Ra_keptCount : Int32) (Ra_least : Int32) (Ra_version : Int32) (Ra_counted : Nat → Int32) (Ra_begins : Nat → Int32) (p0 : Int32) (p1 : Int32) (sz : Nat) (Q : Int32 → Prop) (hw : wp_X3_isKept p0 p1 ns nn Ra_misfits Ra_least Q) : Met l yX3_isKept (wA yX3_isKept cX3_isKept 3 (some .boolean)) { frames := 0, cells := 0, slots := 0, locals := 0 } (kPc [.ref hRa, .int p0, .int p1] D cy (List.flatten [wRa cy hRa hRa_misfits hRa_nodals hRa_order hRa_places hRa_counted hRa_begins hPl hBu ns nn Ra_misfits Ra_nodals Ra_order Ra_places Ra_keptCount Ra_least Ra_version Ra_counted Ra_begins]) sz) (kSi Q) 0 0 (fun _ => False) := by
  refine Met.ofW (cc := cX3_isKept) (maxL := 3) (ret := (some .boolean)) (by decide) rfl ?_
  intro p e s m args below meth c s₁ B hml hv
  obtain ⟨rfl, hsz, hN, hP, hK, hD0⟩ := hv
  have hx := B.exec
  have hb := B.bytes
  have hr := B.returns
  have hts0 := atoms_spec (ws := wA yX3_isKept cX3_isKept 3 (some .boolean)) B.pre
  have hts := fun w (h : w ∈ wsL_law) => hts0 w (List.mem_cons_of_mem _ h)
  have hown : s.vm.findClass RX3 = some m.cls := findClass_of_methodNamed B.named
  have hlocks := B.notSynchronized
  subst hsz
  have hD := hD0
  have hl := lv_entry ([.ref hRa, .int p0, .int p1]) (n := 3) (Nat.le_of_ble_eq_true rfl)
  rw [lg_entry_eq]
  generalize (lg_sl ([.ref hRa, .int p0, .int p1]) ++ List.replicate (3 - (lg_sl ([.ref hRa, .int p0, .int p1])).length) Slot.unset).toArray = ls at hl ⊢
  have hl : lv_has ls 3 [(0, .ref hRa), (1, .int p0), (2, .int p1)] := hl
  unfold wp_X3_isKept at hw
  refine lv_aload_n hx hb dX3_isKept_0 rfl (lv_at hl 0 rfl) ?_
  refine va_get (D := D) (ci := 3) (v := .ref hRa_misfits) (C := RX3) (T := TX3) (N := 11) hx hb hts inlX3 hown hK hP 0 rfl rfl 2 (by decide) (hts (.fieldLink RX3 41 "SquarePlanes$Ranking" "misfits" "[I") mw_6_7) (fun _ h9 => h9) rfl dX3_isKept_1 ?_
  refine lv_iload_n hx hb dX3_isKept_4 rfl (lv_at hl 1 rfl) ?_
  refine va_iald hx hb hK hP 1 0 rfl rfl hw.1 dX3_isKept_5 ?_
  have hw := hw.2
  refine lv_aload_n hx hb dX3_isKept_6 rfl (lv_at hl 0 rfl) ?_
  refine va_get (D := D) (ci := 3) (v := .int Ra_least) (C := RX3) (T := TX3) (N := 11) hx hb hts inlX3 hown hK hP 0 rfl rfl 7 (by decide) (hts (.fieldLink RX3 72 "SquarePlanes$Ranking" "least" "I") mw_13_21) (fun _ h9 => h9) rfl dX3_isKept_7 ?_
  refine lv_iload_n hx hb dX3_isKept_10 rfl (lv_at hl 2 rfl) ?_
  refine lv_iadd hx hb dX3_isKept_11 ?_
  refine lv_icmp_gt (tgt := 19) hx hb dX3_isKept_12 (by decide) (fun c1 => ?_) (fun c1 => ?_)
  · have hw := hw.1 c1
    refine lv_iconst (v := 0) hx hb dX3_isKept_19 (by decide) ?_
    exact W.zret (v := 0) hx hb hr rfl (fun t ht hW => ⟨0, rfl, hw, ht⟩) (fun q h => by cases h) dX3_isKept_20
  · have hw := hw.2 c1
    refine lv_iconst (v := 1) hx hb dX3_isKept_15 (by decide) ?_
    refine lv_goto (tgt := 20) hx hb dX3_isKept_16 (by decide) ?_
    exact W.zret (v := 1) hx hb hr rfl (fun t ht hW => ⟨1, rfl, hw, ht⟩) (fun q h => by cases h) dX3_isKept_20
set_option maxHeartbeats 4000000 in
set_option maxRecDepth 100000 in
theorem k_X3_rank (l : Launch) (D : va_G) (cy : Nat → ClassId) (hRa hRa_misfits hRa_nodals hRa_order hRa_places hRa_counted hRa_begins hPl hBu ns nn : Nat) (Ra_misfits : Nat → Int32) (Ra_nodals : Nat → Int32) (Ra_order : Nat → Int32) (Ra_places : Nat → Int32) (Ra_keptCount : Int32) (Ra_least : Int32) (Ra_version : Int32) (Ra_counted : Nat → Int32) (Ra_begins : Nat → Int32) (p0 : Int32) (sz : Nat) (Q : Int32 → Prop) (hw : wp_X3_rank p0 ns nn Ra_misfits Ra_nodals Ra_least Q) : Met l yX3_rank (wA yX3_rank cX3_rank 2 (some .int)) { frames := 0, cells := 0, slots := 0, locals := 0 } (kPc [.ref hRa, .int p0] D cy (List.flatten [wRa cy hRa hRa_misfits hRa_nodals hRa_order hRa_places hRa_counted hRa_begins hPl hBu ns nn Ra_misfits Ra_nodals Ra_order Ra_places Ra_keptCount Ra_least Ra_version Ra_counted Ra_begins]) sz) (kSi Q) 0 0 (fun _ => False) := by
  refine Met.ofW (cc := cX3_rank) (maxL := 2) (ret := (some .int)) (by decide) rfl ?_
  intro p e s m args below meth c s₁ B hml hv
  obtain ⟨rfl, hsz, hN, hP, hK, hD0⟩ := hv
  have hx := B.exec
  have hb := B.bytes
  have hr := B.returns
  have hts0 := atoms_spec (ws := wA yX3_rank cX3_rank 2 (some .int)) B.pre
  have hts := fun w (h : w ∈ wsL_law) => hts0 w (List.mem_cons_of_mem _ h)
  have hown : s.vm.findClass RX3 = some m.cls := findClass_of_methodNamed B.named
  have hlocks := B.notSynchronized
  subst hsz
  have hD := hD0
  have hl := lv_entry ([.ref hRa, .int p0]) (n := 2) (Nat.le_of_ble_eq_true rfl)
  rw [lg_entry_eq]
  generalize (lg_sl ([.ref hRa, .int p0]) ++ List.replicate (2 - (lg_sl ([.ref hRa, .int p0])).length) Slot.unset).toArray = ls at hl ⊢
  have hl : lv_has ls 2 [(0, .ref hRa), (1, .int p0)] := hl
  unfold wp_X3_rank at hw
  refine lv_aload_n hx hb dX3_rank_0 rfl (lv_at hl 0 rfl) ?_
  refine va_get (D := D) (ci := 3) (v := .ref hRa_misfits) (C := RX3) (T := TX3) (N := 11) hx hb hts inlX3 hown hK hP 0 rfl rfl 2 (by decide) (hts (.fieldLink RX3 41 "SquarePlanes$Ranking" "misfits" "[I") mw_6_7) (fun _ h9 => h9) rfl dX3_rank_1 ?_
  refine lv_iload_n hx hb dX3_rank_4 rfl (lv_at hl 1 rfl) ?_
  refine va_iald hx hb hK hP 1 0 rfl rfl hw.1 dX3_rank_5 ?_
  have hw := hw.2
  refine lv_aload_n hx hb dX3_rank_6 rfl (lv_at hl 0 rfl) ?_
  refine va_get (D := D) (ci := 3) (v := .int Ra_least) (C := RX3) (T := TX3) (N := 11) hx hb hts inlX3 hown hK hP 0 rfl rfl 7 (by decide) (hts (.fieldLink RX3 72 "SquarePlanes$Ranking" "least" "I") mw_13_21) (fun _ h9 => h9) rfl dX3_rank_7 ?_
  refine lv_isub hx hb dX3_rank_10 ?_
  refine lv_bipush (v := 97) hx hb dX3_rank_11 (by decide) ?_
  refine lv_imul hx hb dX3_rank_13 ?_
  refine lv_aload_n hx hb dX3_rank_14 rfl (lv_at hl 0 rfl) ?_
  refine va_get (D := D) (ci := 3) (v := .ref hRa_nodals) (C := RX3) (T := TX3) (N := 11) hx hb hts inlX3 hown hK hP 0 rfl rfl 3 (by decide) (hts (.fieldLink RX3 47 "SquarePlanes$Ranking" "nodals" "[I") mw_6_9) (fun _ h9 => h9) rfl dX3_rank_15 ?_
  refine lv_iload_n hx hb dX3_rank_18 rfl (lv_at hl 1 rfl) ?_
  refine lv_iconst (v := 2) hx hb dX3_rank_19 (by decide) ?_
  refine lv_idiv hx hb dX3_rank_20 (by decide) ?_
  refine va_iald hx hb hK hP 2 0 rfl rfl hw.1 dX3_rank_21 ?_
  have hw := hw.2
  refine lv_iadd hx hb dX3_rank_22 ?_
  exact W.iret (v := (((Ra_misfits p0.toNatClampNeg) - Ra_least) * 97) + (Ra_nodals (p0 / 2).toNatClampNeg)) hx hb hr (fun t ht hW => ⟨(((Ra_misfits p0.toNatClampNeg) - Ra_least) * 97) + (Ra_nodals (p0 / 2).toNatClampNeg), rfl, hw, ht⟩) (fun q h => by cases h) dX3_rank_23
set_option maxHeartbeats 4000000 in
set_option maxRecDepth 100000 in
theorem k_X3_lowestCounted (l : Launch) (D : va_G) (cy : Nat → ClassId) (hRa hRa_misfits hRa_nodals hRa_order hRa_places hRa_counted hRa_begins hPl hBu ns nn : Nat) (Ra_misfits : Nat → Int32) (Ra_nodals : Nat → Int32) (Ra_order : Nat → Int32) (Ra_places : Nat → Int32) (Ra_keptCount : Int32) (Ra_least : Int32) (Ra_version : Int32) (Ra_counted : Nat → Int32) (Ra_begins : Nat → Int32) (sz : Nat) (Q : Int32 → Prop) (hw : wp_X3_lowestCounted ns nn Ra_counted Q) : Met l yX3_lowestCounted (wA yX3_lowestCounted cX3_lowestCounted 2 (some .int)) { frames := 0, cells := 0, slots := 0, locals := 0 } (kPc [.ref hRa] D cy (List.flatten [wRa cy hRa hRa_misfits hRa_nodals hRa_order hRa_places hRa_counted hRa_begins hPl hBu ns nn Ra_misfits Ra_nodals Ra_order Ra_places Ra_keptCount Ra_least Ra_version Ra_counted Ra_begins]) sz) (kSi Q) 0 0 (fun _ => False) := by
  refine Met.ofW (cc := cX3_lowestCounted) (maxL := 2) (ret := (some .int)) (by decide) rfl ?_
  intro p e s m args below meth c s₁ B hml hv
  obtain ⟨rfl, hsz, hN, hP, hK, hD0⟩ := hv
  have hx := B.exec
  have hb := B.bytes
  have hr := B.returns
  have hts0 := atoms_spec (ws := wA yX3_lowestCounted cX3_lowestCounted 2 (some .int)) B.pre
  have hts := fun w (h : w ∈ wsL_law) => hts0 w (List.mem_cons_of_mem _ h)
  have hown : s.vm.findClass RX3 = some m.cls := findClass_of_methodNamed B.named
  have hlocks := B.notSynchronized
  subst hsz
  have hD := hD0
  have hl := lv_entry ([.ref hRa]) (n := 2) (Nat.le_of_ble_eq_true rfl)
  rw [lg_entry_eq]
  generalize (lg_sl ([.ref hRa]) ++ List.replicate (2 - (lg_sl ([.ref hRa])).length) Slot.unset).toArray = ls at hl ⊢
  have hl : lv_has ls 2 [(0, .ref hRa)] := hl
  unfold wp_X3_lowestCounted at hw
  refine lv_iconst (v := 0) hx hb dX3_lowestCounted_0 (by decide) ?_
  refine lv_istore_n (lv' := [(1, .int 0), (0, .ref hRa)]) hx hb dX3_lowestCounted_1 rfl hl (by decide) rfl (fun ls hl => ?_)
  obtain ⟨n2, hw⟩ := hw
  have kl2 : ∀ (K2_23 : Int32 → Prop) (hk2_23 : ∀ (y1_2 : Int32) (ls : Array Slot), K2_23 y1_2 → lv_has ls 2 [(0, .ref hRa), (1, .int y1_2)] → W p l e (headSpec (wA yX3_lowestCounted cX3_lowestCounted 2 (some .int)) { frames := 0, cells := 0, slots := 0, locals := 0 }).room s m #[.ref hRa] below meth c s.heap [] 0 0 (MQ below (kSi Q) #[.ref hRa] s 0 0 (fun _ => False)) (F0 m 23 ls [])) (n : Nat) (y1_2 : Int32) (ls : Array Slot), wp_X3_lowestCounted_L2 Ra_counted K2_23 n y1_2 → lv_has ls 2 [(0, .ref hRa), (1, .int y1_2)] → W p l e (headSpec (wA yX3_lowestCounted cX3_lowestCounted 2 (some .int)) { frames := 0, cells := 0, slots := 0, locals := 0 }).room s m #[.ref hRa] below meth c s.heap [] 0 0 (MQ below (kSi Q) #[.ref hRa] s 0 0 (fun _ => False)) (F0 m 2 ls []) := by
    intro K2_23 hk2_23 n
    induction n with
    | zero =>
      intro y1_2 ls hw
      exact hw.elim
    | succ n ih2 =>
      intro y1_2 ls hw hl
      unfold wp_X3_lowestCounted_L2 at hw
      refine lv_iload_n hx hb dX3_lowestCounted_2 rfl (lv_at hl 1 rfl) ?_
      refine lv_bipush (v := 96) hx hb dX3_lowestCounted_3 (by decide) ?_
      refine lv_icmp_ge (tgt := 23) hx hb dX3_lowestCounted_5 (by decide) (fun c2_2 => ?_) (fun c2_2 => ?_)
      · have hw := hw.1 c2_2
        exact hk2_23 y1_2 ls hw (lv_sub hl [0, 1] rfl)
      · have hw := hw.2 c2_2
        refine lv_aload_n hx hb dX3_lowestCounted_8 rfl (lv_at hl 0 rfl) ?_
        refine va_get (D := D) (ci := 3) (v := .ref hRa_counted) (C := RX3) (T := TX3) (N := 11) hx hb hts inlX3 hown hK hP 0 rfl rfl 9 (by decide) (hts (.fieldLink RX3 15 "SquarePlanes$Ranking" "counted" "[I") mw_6_0) (fun _ h9 => h9) rfl dX3_lowestCounted_9 ?_
        refine lv_iload_n hx hb dX3_lowestCounted_12 rfl (lv_at hl 1 rfl) ?_
        refine va_iald hx hb hK hP 5 0 rfl rfl hw.1 dX3_lowestCounted_13 ?_
        have hw := hw.2
        refine lv_if_ne (tgt := 23) hx hb dX3_lowestCounted_14 (by decide) (fun c1_2 => ?_) (fun c1_2 => ?_)
        · have hw := hw.2 c1_2
          exact hk2_23 y1_2 ls hw (lv_sub hl [0, 1] rfl)
        · have hw := hw.1 c1_2
          refine lv_iinc (v := y1_2 + 1) (lv' := [(1, .int (y1_2 + 1)), (0, .ref hRa)]) hx hb dX3_lowestCounted_17 hl (k := 1) rfl rfl (by decide) rfl (fun ls hl => ?_)
          refine lv_goto (tgt := 2) hx hb dX3_lowestCounted_20 (by decide) ?_
          exact ih2 (y1_2 + 1) ls hw (lv_sub hl [1, 0] rfl)
  refine kl2 _ ?_ n2 0 ls hw (lv_sub hl [1, 0] rfl)
  · intro y1_2 ls hw hl
    refine lv_iload_n hx hb dX3_lowestCounted_23 rfl (lv_at hl 1 rfl) ?_
    exact W.iret (v := y1_2) hx hb hr (fun t ht hW => ⟨y1_2, rfl, hw, ht⟩) (fun q h => by cases h) dX3_lowestCounted_24
set_option maxHeartbeats 4000000 in
set_option maxRecDepth 100000 in
theorem k_X3_countedFrom (l : Launch) (D : va_G) (cy : Nat → ClassId) (hRa hRa_misfits hRa_nodals hRa_order hRa_places hRa_counted hRa_begins hPl hBu ns nn : Nat) (Ra_misfits : Nat → Int32) (Ra_nodals : Nat → Int32) (Ra_order : Nat → Int32) (Ra_places : Nat → Int32) (Ra_keptCount : Int32) (Ra_least : Int32) (Ra_version : Int32) (Ra_counted : Nat → Int32) (Ra_begins : Nat → Int32) (p0 : Int32) (p1 : Int32) (sz : Nat) (Q : Int32 → Prop) (hw : wp_X3_countedFrom p0 p1 ns nn Ra_counted Q) : Met l yX3_countedFrom (wA yX3_countedFrom cX3_countedFrom 5 (some .int)) { frames := 0, cells := 0, slots := 0, locals := 0 } (kPc [.ref hRa, .int p0, .int p1] D cy (List.flatten [wRa cy hRa hRa_misfits hRa_nodals hRa_order hRa_places hRa_counted hRa_begins hPl hBu ns nn Ra_misfits Ra_nodals Ra_order Ra_places Ra_keptCount Ra_least Ra_version Ra_counted Ra_begins]) sz) (kSi Q) 0 0 (fun _ => False) := by
  refine Met.ofW (cc := cX3_countedFrom) (maxL := 5) (ret := (some .int)) (by decide) rfl ?_
  intro p e s m args below meth c s₁ B hml hv
  obtain ⟨rfl, hsz, hN, hP, hK, hD0⟩ := hv
  have hx := B.exec
  have hb := B.bytes
  have hr := B.returns
  have hts0 := atoms_spec (ws := wA yX3_countedFrom cX3_countedFrom 5 (some .int)) B.pre
  have hts := fun w (h : w ∈ wsL_law) => hts0 w (List.mem_cons_of_mem _ h)
  have hown : s.vm.findClass RX3 = some m.cls := findClass_of_methodNamed B.named
  have hlocks := B.notSynchronized
  subst hsz
  have hD := hD0
  have hl := lv_entry ([.ref hRa, .int p0, .int p1]) (n := 5) (Nat.le_of_ble_eq_true rfl)
  rw [lg_entry_eq]
  generalize (lg_sl ([.ref hRa, .int p0, .int p1]) ++ List.replicate (5 - (lg_sl ([.ref hRa, .int p0, .int p1])).length) Slot.unset).toArray = ls at hl ⊢
  have hl : lv_has ls 5 [(0, .ref hRa), (1, .int p0), (2, .int p1)] := hl
  unfold wp_X3_countedFrom at hw
  refine lv_iconst (v := 0) hx hb dX3_countedFrom_0 (by decide) ?_
  refine lv_istore_n (lv' := [(3, .int 0), (0, .ref hRa), (1, .int p0), (2, .int p1)]) hx hb dX3_countedFrom_1 rfl hl (by decide) rfl (fun ls hl => ?_)
  refine lv_iload_n hx hb dX3_countedFrom_2 rfl (lv_at hl 2 rfl) ?_
  refine lv_istore (lv' := [(4, .int p0), (3, .int 0), (0, .ref hRa), (1, .int p0), (2, .int p1)]) hx hb dX3_countedFrom_3 hl (by decide) rfl (fun ls hl => ?_)
  obtain ⟨n5, hw⟩ := hw
  have kl5 : ∀ (K5_36 : Int32 → Int32 → Prop) (hk5_36 : ∀ (y3_5 : Int32) (y4_5 : Int32) (ls : Array Slot), K5_36 y3_5 y4_5 → lv_has ls 5 [(0, .ref hRa), (1, .int p0), (2, .int p1), (3, .int y3_5), (4, .int y4_5)] → W p l e (headSpec (wA yX3_countedFrom cX3_countedFrom 5 (some .int)) { frames := 0, cells := 0, slots := 0, locals := 0 }).room s m #[.ref hRa, .int p0, .int p1] below meth c s.heap [] 0 0 (MQ below (kSi Q) #[.ref hRa, .int p0, .int p1] s 0 0 (fun _ => False)) (F0 m 36 ls [])) (n : Nat) (y3_5 : Int32) (y4_5 : Int32) (ls : Array Slot), wp_X3_countedFrom_L5 p0 p1 Ra_counted K5_36 n y3_5 y4_5 → lv_has ls 5 [(0, .ref hRa), (1, .int p0), (2, .int p1), (3, .int y3_5), (4, .int y4_5)] → W p l e (headSpec (wA yX3_countedFrom cX3_countedFrom 5 (some .int)) { frames := 0, cells := 0, slots := 0, locals := 0 }).room s m #[.ref hRa, .int p0, .int p1] below meth c s.heap [] 0 0 (MQ below (kSi Q) #[.ref hRa, .int p0, .int p1] s 0 0 (fun _ => False)) (F0 m 5 ls []) := by
    intro K5_36 hk5_36 n
    induction n with
    | zero =>
      intro y3_5 y4_5 ls hw
      exact hw.elim
    | succ n ih5 =>
      intro y3_5 y4_5 ls hw hl
      unfold wp_X3_countedFrom_L5 at hw
      refine lv_iload hx hb dX3_countedFrom_5 (lv_at hl 4 rfl) ?_
      refine lv_bipush (v := 96) hx hb dX3_countedFrom_7 (by decide) ?_
      refine lv_icmp_gt (tgt := 36) hx hb dX3_countedFrom_9 (by decide) (fun c3_5 => ?_) (fun c3_5 => ?_)
      · have hw := hw.1 c3_5
        exact hk5_36 y3_5 y4_5 ls hw (lv_sub hl [0, 1, 2, 3, 4] rfl)
      · have hw := hw.2 c3_5
        refine lv_iload hx hb dX3_countedFrom_12 (lv_at hl 4 rfl) ?_
        refine lv_iload_n hx hb dX3_countedFrom_14 rfl (lv_at hl 1 rfl) ?_
        refine lv_iload_n hx hb dX3_countedFrom_15 rfl (lv_at hl 2 rfl) ?_
        refine lv_iadd hx hb dX3_countedFrom_16 ?_
        refine lv_icmp_gt (tgt := 36) hx hb dX3_countedFrom_17 (by decide) (fun c2_5 => ?_) (fun c2_5 => ?_)
        · have hw := hw.1 c2_5
          exact hk5_36 y3_5 y4_5 ls hw (lv_sub hl [0, 1, 2, 3, 4] rfl)
        · have hw := hw.2 c2_5
          refine lv_iload_n hx hb dX3_countedFrom_20 rfl (lv_at hl 3 rfl) ?_
          refine lv_aload_n hx hb dX3_countedFrom_21 rfl (lv_at hl 0 rfl) ?_
          refine va_get (D := D) (ci := 3) (v := .ref hRa_counted) (C := RX3) (T := TX3) (N := 11) hx hb hts inlX3 hown hK hP 0 rfl rfl 9 (by decide) (hts (.fieldLink RX3 15 "SquarePlanes$Ranking" "counted" "[I") mw_6_0) (fun _ h9 => h9) rfl dX3_countedFrom_22 ?_
          refine lv_iload hx hb dX3_countedFrom_25 (lv_at hl 4 rfl) ?_
          refine va_iald hx hb hK hP 5 0 rfl rfl hw.1 dX3_countedFrom_27 ?_
          have hw := hw.2
          refine lv_iadd hx hb dX3_countedFrom_28 ?_
          refine lv_topi (fun x1_5 ex1_5 => ?_)
          have hw := hw x1_5 ex1_5
          refine lv_istore_n (lv' := [(3, .int x1_5), (0, .ref hRa), (1, .int p0), (2, .int p1), (4, .int y4_5)]) hx hb dX3_countedFrom_29 rfl hl (by decide) rfl (fun ls hl => ?_)
          refine lv_iinc (v := y4_5 + 1) (lv' := [(4, .int (y4_5 + 1)), (3, .int x1_5), (0, .ref hRa), (1, .int p0), (2, .int p1)]) hx hb dX3_countedFrom_30 hl (k := 4) rfl rfl (by decide) rfl (fun ls hl => ?_)
          refine lv_goto (tgt := 5) hx hb dX3_countedFrom_33 (by decide) ?_
          exact ih5 x1_5 (y4_5 + 1) ls hw (lv_sub hl [2, 3, 4, 1, 0] rfl)
  refine kl5 _ ?_ n5 0 p0 ls hw (lv_sub hl [2, 3, 4, 1, 0] rfl)
  · intro y3_5 y4_5 ls hw hl
    refine lv_iload_n hx hb dX3_countedFrom_36 rfl (lv_at hl 3 rfl) ?_
    exact W.iret (v := y3_5) hx hb hr (fun t ht hW => ⟨y3_5, rfl, hw, ht⟩) (fun q h => by cases h) dX3_countedFrom_37
set_option maxHeartbeats 4000000 in
set_option maxRecDepth 100000 in
theorem k_X4_has (l : Launch) (D : va_G) (cy : Nat → ClassId) (hSt hSt_there hSt_xs hSt_ys hSt_zs hSt_signs hSt_weights : Nat) (St_there : Nat → Int32) (St_xs : Nat → Int32) (St_ys : Nat → Int32) (St_zs : Nat → Int32) (St_signs : Nat → Int32) (St_weights : Nat → Int32) (p0 : Int32) (sz : Nat) (Q : Int32 → Prop) (hw : wp_X4_has p0 St_there Q) : Met l yX4_has (wA yX4_has cX4_has 2 (some .boolean)) { frames := 0, cells := 0, slots := 0, locals := 0 } (kPc [.ref hSt, .int p0] D cy (List.flatten [wSt cy hSt hSt_there hSt_xs hSt_ys hSt_zs hSt_signs hSt_weights St_there St_xs St_ys St_zs St_signs St_weights]) sz) (kSi Q) 0 0 (fun _ => False) := by
  refine Met.ofW (cc := cX4_has) (maxL := 2) (ret := (some .boolean)) (by decide) rfl ?_
  intro p e s m args below meth c s₁ B hml hv
  obtain ⟨rfl, hsz, hN, hP, hK, hD0⟩ := hv
  have hx := B.exec
  have hb := B.bytes
  have hr := B.returns
  have hts0 := atoms_spec (ws := wA yX4_has cX4_has 2 (some .boolean)) B.pre
  have hts := fun w (h : w ∈ wsL_law) => hts0 w (List.mem_cons_of_mem _ h)
  have hown : s.vm.findClass RX4 = some m.cls := findClass_of_methodNamed B.named
  have hlocks := B.notSynchronized
  subst hsz
  have hD := hD0
  have hl := lv_entry ([.ref hSt, .int p0]) (n := 2) (Nat.le_of_ble_eq_true rfl)
  rw [lg_entry_eq]
  generalize (lg_sl ([.ref hSt, .int p0]) ++ List.replicate (2 - (lg_sl ([.ref hSt, .int p0])).length) Slot.unset).toArray = ls at hl ⊢
  have hl : lv_has ls 2 [(0, .ref hSt), (1, .int p0)] := hl
  unfold wp_X4_has at hw
  refine lv_iload_n hx hb dX4_has_0 rfl (lv_at hl 1 rfl) ?_
  refine lv_if_lt (tgt := 23) hx hb dX4_has_1 (by decide) (fun c3 => ?_) (fun c3 => ?_)
  · have hw := hw.1 c3
    refine lv_iconst (v := 0) hx hb dX4_has_23 (by decide) ?_
    exact W.zret (v := 0) hx hb hr rfl (fun t ht hW => ⟨0, rfl, hw, ht⟩) (fun q h => by cases h) dX4_has_24
  · have hw := hw.2 c3
    refine lv_iload_n hx hb dX4_has_4 rfl (lv_at hl 1 rfl) ?_
    refine lv_bipush (v := 24) hx hb dX4_has_5 (by decide) ?_
    refine lv_icmp_ge (tgt := 23) hx hb dX4_has_7 (by decide) (fun c2 => ?_) (fun c2 => ?_)
    · have hw := hw.1 c2
      refine lv_iconst (v := 0) hx hb dX4_has_23 (by decide) ?_
      exact W.zret (v := 0) hx hb hr rfl (fun t ht hW => ⟨0, rfl, hw, ht⟩) (fun q h => by cases h) dX4_has_24
    · have hw := hw.2 c2
      refine lv_aload_n hx hb dX4_has_10 rfl (lv_at hl 0 rfl) ?_
      refine va_get (D := D) (ci := 4) (v := .ref hSt_there) (C := RX4) (T := TX4) (N := 6) hx hb hts inlX4 hown hK hP 0 rfl rfl 0 (by decide) (hts (.fieldLink RX4 9 "SquarePlanes$Stations" "there" "[Z") mw_2_12) (fun _ h9 => h9) rfl dX4_has_11 ?_
      refine lv_iload_n hx hb dX4_has_14 rfl (lv_at hl 1 rfl) ?_
      refine va_zald hx hb hK hP 1 1 rfl rfl hw.1 dX4_has_15 ?_
      have hw := hw.2
      refine lv_if_eq (tgt := 23) hx hb dX4_has_16 (by decide) (fun c1 => ?_) (fun c1 => ?_)
      · have hw := hw.1 c1
        refine lv_iconst (v := 0) hx hb dX4_has_23 (by decide) ?_
        exact W.zret (v := 0) hx hb hr rfl (fun t ht hW => ⟨0, rfl, hw, ht⟩) (fun q h => by cases h) dX4_has_24
      · have hw := hw.2 c1
        refine lv_iconst (v := 1) hx hb dX4_has_19 (by decide) ?_
        refine lv_goto (tgt := 24) hx hb dX4_has_20 (by decide) ?_
        exact W.zret (v := 1) hx hb hr rfl (fun t ht hW => ⟨1, rfl, hw, ht⟩) (fun q h => by cases h) dX4_has_24
set_option maxHeartbeats 4000000 in
set_option maxRecDepth 100000 in
theorem k_X4_isSigned (l : Launch) (D : va_G) (cy : Nat → ClassId) (hSt hSt_there hSt_xs hSt_ys hSt_zs hSt_signs hSt_weights : Nat) (St_there : Nat → Int32) (St_xs : Nat → Int32) (St_ys : Nat → Int32) (St_zs : Nat → Int32) (St_signs : Nat → Int32) (St_weights : Nat → Int32) (p0 : Int32) (sz : Nat) (Q : Int32 → Prop) (hw : wp_X4_isSigned p0 St_there St_signs Q) : Met l yX4_isSigned (wA yX4_isSigned cX4_isSigned 2 (some .boolean)) { frames := 0, cells := 0, slots := 0, locals := 0 } (kPc [.ref hSt, .int p0] D cy (List.flatten [wSt cy hSt hSt_there hSt_xs hSt_ys hSt_zs hSt_signs hSt_weights St_there St_xs St_ys St_zs St_signs St_weights]) sz) (kSi Q) 0 0 (fun _ => False) := by
  refine Met.ofW (cc := cX4_isSigned) (maxL := 2) (ret := (some .boolean)) (by decide) rfl ?_
  intro p e s m args below meth c s₁ B hml hv
  obtain ⟨rfl, hsz, hN, hP, hK, hD0⟩ := hv
  have hx := B.exec
  have hb := B.bytes
  have hr := B.returns
  have hts0 := atoms_spec (ws := wA yX4_isSigned cX4_isSigned 2 (some .boolean)) B.pre
  have hts := fun w (h : w ∈ wsL_law) => hts0 w (List.mem_cons_of_mem _ h)
  have hown : s.vm.findClass RX4 = some m.cls := findClass_of_methodNamed B.named
  have hlocks := B.notSynchronized
  subst hsz
  have hD := hD0
  have hl := lv_entry ([.ref hSt, .int p0]) (n := 2) (Nat.le_of_ble_eq_true rfl)
  rw [lg_entry_eq]
  generalize (lg_sl ([.ref hSt, .int p0]) ++ List.replicate (2 - (lg_sl ([.ref hSt, .int p0])).length) Slot.unset).toArray = ls at hl ⊢
  have hl : lv_has ls 2 [(0, .ref hSt), (1, .int p0)] := hl
  unfold wp_X4_isSigned at hw
  refine lv_aload_n hx hb dX4_isSigned_0 rfl (lv_at hl 0 rfl) ?_
  refine va_get (D := D) (ci := 4) (v := .ref hSt_there) (C := RX4) (T := TX4) (N := 6) hx hb hts inlX4 hown hK hP 0 rfl rfl 0 (by decide) (hts (.fieldLink RX4 9 "SquarePlanes$Stations" "there" "[Z") mw_2_12) (fun _ h9 => h9) rfl dX4_isSigned_1 ?_
  refine lv_iload_n hx hb dX4_isSigned_4 rfl (lv_at hl 1 rfl) ?_
  refine va_zald hx hb hK hP 1 1 rfl rfl hw.1 dX4_isSigned_5 ?_
  have hw := hw.2
  refine lv_if_eq (tgt := 22) hx hb dX4_isSigned_6 (by decide) (fun c2 => ?_) (fun c2 => ?_)
  · have hw := hw.1 c2
    refine lv_iconst (v := 0) hx hb dX4_isSigned_22 (by decide) ?_
    exact W.zret (v := 0) hx hb hr rfl (fun t ht hW => ⟨0, rfl, hw, ht⟩) (fun q h => by cases h) dX4_isSigned_23
  · have hw := hw.2 c2
    refine lv_aload_n hx hb dX4_isSigned_9 rfl (lv_at hl 0 rfl) ?_
    refine va_get (D := D) (ci := 4) (v := .ref hSt_signs) (C := RX4) (T := TX4) (N := 6) hx hb hts inlX4 hown hK hP 0 rfl rfl 4 (by decide) (hts (.fieldLink RX4 25 "SquarePlanes$Stations" "signs" "[I") mw_2_17) (fun _ h9 => h9) rfl dX4_isSigned_10 ?_
    refine lv_iload_n hx hb dX4_isSigned_13 rfl (lv_at hl 1 rfl) ?_
    refine va_iald hx hb hK hP 5 0 rfl rfl hw.1 dX4_isSigned_14 ?_
    have hw := hw.2
    refine lv_if_eq (tgt := 22) hx hb dX4_isSigned_15 (by decide) (fun c1 => ?_) (fun c1 => ?_)
    · have hw := hw.1 c1
      refine lv_iconst (v := 0) hx hb dX4_isSigned_22 (by decide) ?_
      exact W.zret (v := 0) hx hb hr rfl (fun t ht hW => ⟨0, rfl, hw, ht⟩) (fun q h => by cases h) dX4_isSigned_23
    · have hw := hw.2 c1
      refine lv_iconst (v := 1) hx hb dX4_isSigned_18 (by decide) ?_
      refine lv_goto (tgt := 23) hx hb dX4_isSigned_19 (by decide) ?_
      exact W.zret (v := 1) hx hb hr rfl (fun t ht hW => ⟨1, rfl, hw, ht⟩) (fun q h => by cases h) dX4_isSigned_23
set_option maxHeartbeats 4000000 in
set_option maxRecDepth 100000 in
theorem k_X4_count (l : Launch) (D : va_G) (cy : Nat → ClassId) (hSt hSt_there hSt_xs hSt_ys hSt_zs hSt_signs hSt_weights : Nat) (St_there : Nat → Int32) (St_xs : Nat → Int32) (St_ys : Nat → Int32) (St_zs : Nat → Int32) (St_signs : Nat → Int32) (St_weights : Nat → Int32) (sz : Nat) (Q : Int32 → Prop) (hw : wp_X4_count St_there Q) : Met l yX4_count (wA yX4_count cX4_count 3 (some .int)) { frames := 0, cells := 0, slots := 0, locals := 0 } (kPc [.ref hSt] D cy (List.flatten [wSt cy hSt hSt_there hSt_xs hSt_ys hSt_zs hSt_signs hSt_weights St_there St_xs St_ys St_zs St_signs St_weights]) sz) (kSi Q) 0 0 (fun _ => False) := by
  refine Met.ofW (cc := cX4_count) (maxL := 3) (ret := (some .int)) (by decide) rfl ?_
  intro p e s m args below meth c s₁ B hml hv
  obtain ⟨rfl, hsz, hN, hP, hK, hD0⟩ := hv
  have hx := B.exec
  have hb := B.bytes
  have hr := B.returns
  have hts0 := atoms_spec (ws := wA yX4_count cX4_count 3 (some .int)) B.pre
  have hts := fun w (h : w ∈ wsL_law) => hts0 w (List.mem_cons_of_mem _ h)
  have hown : s.vm.findClass RX4 = some m.cls := findClass_of_methodNamed B.named
  have hlocks := B.notSynchronized
  subst hsz
  have hD := hD0
  have hl := lv_entry ([.ref hSt]) (n := 3) (Nat.le_of_ble_eq_true rfl)
  rw [lg_entry_eq]
  generalize (lg_sl ([.ref hSt]) ++ List.replicate (3 - (lg_sl ([.ref hSt])).length) Slot.unset).toArray = ls at hl ⊢
  have hl : lv_has ls 3 [(0, .ref hSt)] := hl
  unfold wp_X4_count at hw
  refine lv_iconst (v := 0) hx hb dX4_count_0 (by decide) ?_
  refine lv_istore_n (lv' := [(1, .int 0), (0, .ref hSt)]) hx hb dX4_count_1 rfl hl (by decide) rfl (fun ls hl => ?_)
  refine lv_iconst (v := 0) hx hb dX4_count_2 (by decide) ?_
  refine lv_istore_n (lv' := [(2, .int 0), (1, .int 0), (0, .ref hSt)]) hx hb dX4_count_3 rfl hl (by decide) rfl (fun ls hl => ?_)
  obtain ⟨n4, hw⟩ := hw
  have kl4 : ∀ (K4_28 : Int32 → Int32 → Prop) (hk4_28 : ∀ (y1_4 : Int32) (y2_4 : Int32) (ls : Array Slot), K4_28 y1_4 y2_4 → lv_has ls 3 [(0, .ref hSt), (1, .int y1_4), (2, .int y2_4)] → W p l e (headSpec (wA yX4_count cX4_count 3 (some .int)) { frames := 0, cells := 0, slots := 0, locals := 0 }).room s m #[.ref hSt] below meth c s.heap [] 0 0 (MQ below (kSi Q) #[.ref hSt] s 0 0 (fun _ => False)) (F0 m 28 ls [])) (n : Nat) (y1_4 : Int32) (y2_4 : Int32) (ls : Array Slot), wp_X4_count_L4 St_there K4_28 n y1_4 y2_4 → lv_has ls 3 [(0, .ref hSt), (1, .int y1_4), (2, .int y2_4)] → W p l e (headSpec (wA yX4_count cX4_count 3 (some .int)) { frames := 0, cells := 0, slots := 0, locals := 0 }).room s m #[.ref hSt] below meth c s.heap [] 0 0 (MQ below (kSi Q) #[.ref hSt] s 0 0 (fun _ => False)) (F0 m 4 ls []) := by
    intro K4_28 hk4_28 n
    induction n with
    | zero =>
      intro y1_4 y2_4 ls hw
      exact hw.elim
    | succ n ih4 =>
      intro y1_4 y2_4 ls hw hl
      unfold wp_X4_count_L4 at hw
      refine lv_iload_n hx hb dX4_count_4 rfl (lv_at hl 2 rfl) ?_
      refine lv_bipush (v := 24) hx hb dX4_count_5 (by decide) ?_
      refine lv_icmp_ge (tgt := 28) hx hb dX4_count_7 (by decide) (fun c2_4 => ?_) (fun c2_4 => ?_)
      · have hw := hw.1 c2_4
        exact hk4_28 y1_4 y2_4 ls hw (lv_sub hl [0, 1, 2] rfl)
      · have hw := hw.2 c2_4
        refine lv_aload_n hx hb dX4_count_10 rfl (lv_at hl 0 rfl) ?_
        refine va_get (D := D) (ci := 4) (v := .ref hSt_there) (C := RX4) (T := TX4) (N := 6) hx hb hts inlX4 hown hK hP 0 rfl rfl 0 (by decide) (hts (.fieldLink RX4 9 "SquarePlanes$Stations" "there" "[Z") mw_2_12) (fun _ h9 => h9) rfl dX4_count_11 ?_
        refine lv_iload_n hx hb dX4_count_14 rfl (lv_at hl 2 rfl) ?_
        refine va_zald hx hb hK hP 1 1 rfl rfl hw.1 dX4_count_15 ?_
        have hw := hw.2
        refine lv_if_eq (tgt := 22) hx hb dX4_count_16 (by decide) (fun c1_4 => ?_) (fun c1_4 => ?_)
        · have hw := hw.1 c1_4
          refine lv_iinc (v := y2_4 + 1) (lv' := [(2, .int (y2_4 + 1)), (0, .ref hSt), (1, .int y1_4)]) hx hb dX4_count_22 hl (k := 2) rfl rfl (by decide) rfl (fun ls hl => ?_)
          refine lv_goto (tgt := 4) hx hb dX4_count_25 (by decide) ?_
          exact ih4 y1_4 (y2_4 + 1) ls hw (lv_sub hl [1, 2, 0] rfl)
        · have hw := hw.2 c1_4
          refine lv_iinc (v := y1_4 + 1) (lv' := [(1, .int (y1_4 + 1)), (0, .ref hSt), (2, .int y2_4)]) hx hb dX4_count_19 hl (k := 1) rfl rfl (by decide) rfl (fun ls hl => ?_)
          refine lv_iinc (v := y2_4 + 1) (lv' := [(2, .int (y2_4 + 1)), (1, .int (y1_4 + 1)), (0, .ref hSt)]) hx hb dX4_count_22 hl (k := 2) rfl rfl (by decide) rfl (fun ls hl => ?_)
          refine lv_goto (tgt := 4) hx hb dX4_count_25 (by decide) ?_
          exact ih4 (y1_4 + 1) (y2_4 + 1) ls hw (lv_sub hl [2, 1, 0] rfl)
  refine kl4 _ ?_ n4 0 0 ls hw (lv_sub hl [2, 1, 0] rfl)
  · intro y1_4 y2_4 ls hw hl
    refine lv_iload_n hx hb dX4_count_28 rfl (lv_at hl 1 rfl) ?_
    exact W.iret (v := y1_4) hx hb hr (fun t ht hW => ⟨y1_4, rfl, hw, ht⟩) (fun q h => by cases h) dX4_count_29
set_option maxHeartbeats 4000000 in
set_option maxRecDepth 100000 in
theorem k_X4_aim (l : Launch) (D : va_G) (cy : Nat → ClassId) (hSt hSt_there hSt_xs hSt_ys hSt_zs hSt_signs hSt_weights : Nat) (St_there : Nat → Int32) (St_xs : Nat → Int32) (St_ys : Nat → Int32) (St_zs : Nat → Int32) (St_signs : Nat → Int32) (St_weights : Nat → Int32) (p0 : Int32) (p1 : Int32) (p2 : Int32) (p3 : Int32) (sz : Nat) (Q : (Nat → Int32) → (Nat → Int32) → (Nat → Int32) → Prop) (hw : wp_X4_aim p0 p1 p2 p3 St_xs St_ys St_zs Q) : Met l yX4_aim (wA yX4_aim cX4_aim 5 none) { frames := 0, cells := 0, slots := 0, locals := 0 } (kPc [.ref hSt, .int p0, .int p1, .int p2, .int p3] D cy (List.flatten [wSt cy hSt hSt_there hSt_xs hSt_ys hSt_zs hSt_signs hSt_weights St_there St_xs St_ys St_zs St_signs St_weights]) sz) (va_Qv (fun (u : (Nat → Int32) × (Nat → Int32) × (Nat → Int32)) => Q u.1 u.2.1 u.2.2) (fun u t => kB D cy (va_A (List.flatten [wSt cy hSt hSt_there hSt_xs hSt_ys hSt_zs hSt_signs hSt_weights St_there St_xs St_ys St_zs St_signs St_weights]) sz) (List.flatten [wSt cy hSt hSt_there hSt_xs hSt_ys hSt_zs hSt_signs hSt_weights St_there u.1 u.2.1 u.2.2 St_signs St_weights]) t) (va_A (List.flatten [wSt cy hSt hSt_there hSt_xs hSt_ys hSt_zs hSt_signs hSt_weights St_there St_xs St_ys St_zs St_signs St_weights]) sz)) 0 0 (va_A (List.flatten [wSt cy hSt hSt_there hSt_xs hSt_ys hSt_zs hSt_signs hSt_weights St_there St_xs St_ys St_zs St_signs St_weights]) sz) := by
  refine Met.ofW (cc := cX4_aim) (maxL := 5) (ret := none) (by decide) rfl ?_
  intro p e s m args below meth c s₁ B hml hv
  obtain ⟨rfl, hsz, hN, hP, hK, hD0⟩ := hv
  have hx := B.exec
  have hb := B.bytes
  have hr := B.returns
  have hts0 := atoms_spec (ws := wA yX4_aim cX4_aim 5 none) B.pre
  have hts := fun w (h : w ∈ wsL_law) => hts0 w (List.mem_cons_of_mem _ h)
  have hown : s.vm.findClass RX4 = some m.cls := findClass_of_methodNamed B.named
  have hlocks := B.notSynchronized
  subst hsz
  have hD := hD0.self (sz := s.heap.size)
  generalize hAe : va_A (List.flatten [wSt cy hSt hSt_there hSt_xs hSt_ys hSt_zs hSt_signs hSt_weights St_there St_xs St_ys St_zs St_signs St_weights]) s.heap.size = A at hD ⊢
  have hA : ∀ q : Nat, s.heap.size ≤ q → A q := fun q h => by rw [← hAe]; exact Or.inr h
  have hS : va_S A s.heap s.heap [] := va_S.rf
  have hP : va_P D vwCl (List.flatten [wSt cy hSt hSt_there hSt_xs hSt_ys hSt_zs hSt_signs hSt_weights St_there St_xs St_ys St_zs St_signs St_weights]) s.heap := hP
  have hl := lv_entry ([.ref hSt, .int p0, .int p1, .int p2, .int p3]) (n := 5) (Nat.le_of_ble_eq_true rfl)
  rw [lg_entry_eq]
  generalize (lg_sl ([.ref hSt, .int p0, .int p1, .int p2, .int p3]) ++ List.replicate (5 - (lg_sl ([.ref hSt, .int p0, .int p1, .int p2, .int p3])).length) Slot.unset).toArray = ls at hl ⊢
  have hl : lv_has ls 5 [(0, .ref hSt), (1, .int p0), (2, .int p1), (3, .int p2), (4, .int p3)] := hl
  unfold wp_X4_aim at hw
  refine lv_aload_n hx hb dX4_aim_0 rfl (lv_at hl 0 rfl) ?_
  refine va_get (D := D) (ci := 4) (v := .ref hSt_xs) (C := RX4) (T := TX4) (N := 6) hx hb hts inlX4 hown hK hP 0 rfl rfl 1 (by decide) (hts (.fieldLink RX4 15 "SquarePlanes$Stations" "xs" "[I") mw_2_14) (fun _ h9 => h9) rfl dX4_aim_1 ?_
  refine lv_iload_n hx hb dX4_aim_4 rfl (lv_at hl 1 rfl) ?_
  refine lv_iload_n hx hb dX4_aim_5 rfl (lv_at hl 2 rfl) ?_
  refine va_iast hx hb hK hP hD hS 2 0 rfl rfl hw.1 dX4_aim_6 (fun H locs hP hD hS => ?_)
  have hw := hw.2
  have hP : va_P D vwCl (List.flatten [wSt cy hSt hSt_there hSt_xs hSt_ys hSt_zs hSt_signs hSt_weights St_there (upd St_xs p0.toNatClampNeg p1) St_ys St_zs St_signs St_weights]) H := hP
  have hD : va_D A (List.flatten [wSt cy hSt hSt_there hSt_xs hSt_ys hSt_zs hSt_signs hSt_weights St_there (upd St_xs p0.toNatClampNeg p1) St_ys St_zs St_signs St_weights]) := hD
  refine lv_aload_n hx hb dX4_aim_7 rfl (lv_at hl 0 rfl) ?_
  refine va_get (D := D) (ci := 4) (v := .ref hSt_ys) (C := RX4) (T := TX4) (N := 6) hx hb hts inlX4 hown hK hP 0 rfl rfl 2 (by decide) (hts (.fieldLink RX4 19 "SquarePlanes$Stations" "ys" "[I") mw_2_15) (fun _ h9 => h9) rfl dX4_aim_8 ?_
  refine lv_iload_n hx hb dX4_aim_11 rfl (lv_at hl 1 rfl) ?_
  refine lv_iload_n hx hb dX4_aim_12 rfl (lv_at hl 3 rfl) ?_
  refine va_iast hx hb hK hP hD hS 3 0 rfl rfl hw.1 dX4_aim_13 (fun H locs hP hD hS => ?_)
  have hw := hw.2
  have hP : va_P D vwCl (List.flatten [wSt cy hSt hSt_there hSt_xs hSt_ys hSt_zs hSt_signs hSt_weights St_there (upd St_xs p0.toNatClampNeg p1) (upd St_ys p0.toNatClampNeg p2) St_zs St_signs St_weights]) H := hP
  have hD : va_D A (List.flatten [wSt cy hSt hSt_there hSt_xs hSt_ys hSt_zs hSt_signs hSt_weights St_there (upd St_xs p0.toNatClampNeg p1) (upd St_ys p0.toNatClampNeg p2) St_zs St_signs St_weights]) := hD
  refine lv_aload_n hx hb dX4_aim_14 rfl (lv_at hl 0 rfl) ?_
  refine va_get (D := D) (ci := 4) (v := .ref hSt_zs) (C := RX4) (T := TX4) (N := 6) hx hb hts inlX4 hown hK hP 0 rfl rfl 3 (by decide) (hts (.fieldLink RX4 22 "SquarePlanes$Stations" "zs" "[I") mw_2_16) (fun _ h9 => h9) rfl dX4_aim_15 ?_
  refine lv_iload_n hx hb dX4_aim_18 rfl (lv_at hl 1 rfl) ?_
  refine lv_iload hx hb dX4_aim_19 (lv_at hl 4 rfl) ?_
  refine va_iast hx hb hK hP hD hS 4 0 rfl rfl hw.1 dX4_aim_21 (fun H locs hP hD hS => ?_)
  have hw := hw.2
  have hP : va_P D vwCl (List.flatten [wSt cy hSt hSt_there hSt_xs hSt_ys hSt_zs hSt_signs hSt_weights St_there (upd St_xs p0.toNatClampNeg p1) (upd St_ys p0.toNatClampNeg p2) (upd St_zs p0.toNatClampNeg p3) St_signs St_weights]) H := hP
  have hD : va_D A (List.flatten [wSt cy hSt hSt_there hSt_xs hSt_ys hSt_zs hSt_signs hSt_weights St_there (upd St_xs p0.toNatClampNeg p1) (upd St_ys p0.toNatClampNeg p2) (upd St_zs p0.toNatClampNeg p3) St_signs St_weights]) := hD
  exact W.vret hx hb hr (fun t ht hW => ⟨⟨(upd St_xs p0.toNatClampNeg p1, upd St_ys p0.toNatClampNeg p2, upd St_zs p0.toNatClampNeg p3), rfl, hw, ⟨by rw [ht]; exact hP, va_K.moved hW.alike hK, hD⟩⟩, hS.F ht⟩) hS.2.2 dX4_aim_22
set_option maxHeartbeats 4000000 in
set_option maxRecDepth 100000 in
theorem k_X5_extra (l : Launch) (D : va_G) (cy : Nat → ClassId) (hSP hSP_rankings hSt hPo hRa : Nat) (SP_rankings : Nat → Option Nat) (SP_sizeNow : Int32) (SP_extraNow : Int32) (SP_version : Int32) (p0 : Int32) (sz : Nat) (Q : Int32 → Int32 → Int32 → Prop) (hw : wp_X5_extra p0 SP_extraNow SP_version Q) : Met l yX5_extra (wA yX5_extra cX5_extra 3 (some .int)) { frames := 0, cells := 0, slots := 0, locals := 0 } (kPc [.ref hSP, .int p0] D cy (List.flatten [wSP cy hSP hSP_rankings hSt hPo hRa SP_rankings SP_sizeNow SP_extraNow SP_version]) sz) (va_Qi (fun (r : Int32) (u : Int32 × Int32) => Q r u.1 u.2) (fun u t => kB D cy (va_A (List.flatten [wSP cy hSP hSP_rankings hSt hPo hRa SP_rankings SP_sizeNow SP_extraNow SP_version]) sz) (List.flatten [wSP cy hSP hSP_rankings hSt hPo hRa SP_rankings SP_sizeNow u.1 u.2]) t) (va_A (List.flatten [wSP cy hSP hSP_rankings hSt hPo hRa SP_rankings SP_sizeNow SP_extraNow SP_version]) sz)) 0 0 (va_A (List.flatten [wSP cy hSP hSP_rankings hSt hPo hRa SP_rankings SP_sizeNow SP_extraNow SP_version]) sz) := by
  refine Met.ofW (cc := cX5_extra) (maxL := 3) (ret := (some .int)) (by decide) rfl ?_
  intro p e s m args below meth c s₁ B hml hv
  obtain ⟨rfl, hsz, hN, hP, hK, hD0⟩ := hv
  have hx := B.exec
  have hb := B.bytes
  have hr := B.returns
  have hts0 := atoms_spec (ws := wA yX5_extra cX5_extra 3 (some .int)) B.pre
  have hts := fun w (h : w ∈ wsL_law) => hts0 w (List.mem_cons_of_mem _ h)
  have hown : s.vm.findClass RX5 = some m.cls := findClass_of_methodNamed B.named
  have hlocks := B.notSynchronized
  subst hsz
  have hD := hD0.self (sz := s.heap.size)
  generalize hAe : va_A (List.flatten [wSP cy hSP hSP_rankings hSt hPo hRa SP_rankings SP_sizeNow SP_extraNow SP_version]) s.heap.size = A at hD ⊢
  have hA : ∀ q : Nat, s.heap.size ≤ q → A q := fun q h => by rw [← hAe]; exact Or.inr h
  have hS : va_S A s.heap s.heap [] := va_S.rf
  have hP : va_P D vwCl (List.flatten [wSP cy hSP hSP_rankings hSt hPo hRa SP_rankings SP_sizeNow SP_extraNow SP_version]) s.heap := hP
  have hl := lv_entry ([.ref hSP, .int p0]) (n := 3) (Nat.le_of_ble_eq_true rfl)
  rw [lg_entry_eq]
  generalize (lg_sl ([.ref hSP, .int p0]) ++ List.replicate (3 - (lg_sl ([.ref hSP, .int p0])).length) Slot.unset).toArray = ls at hl ⊢
  have hl : lv_has ls 3 [(0, .ref hSP), (1, .int p0)] := hl
  unfold wp_X5_extra at hw
  refine lv_iload_n hx hb dX5_extra_0 rfl (lv_at hl 1 rfl) ?_
  refine lv_if_lt (tgt := 10) hx hb dX5_extra_1 (by decide) (fun c3 => ?_) (fun c3 => ?_)
  · have hw := hw.1 c3
    refine lv_bipush (v := (-2)) hx hb dX5_extra_10 (by decide) ?_
    exact W.iret (v := (-2)) hx hb hr (fun t ht hW => ⟨⟨(-2), (SP_extraNow, SP_version), rfl, hw, ⟨by rw [ht]; exact hP, va_K.moved hW.alike hK, hD⟩⟩, hS.F ht⟩) hS.2.2 dX5_extra_12
  · have hw := hw.2 c3
    refine lv_iload_n hx hb dX5_extra_4 rfl (lv_at hl 1 rfl) ?_
    refine lv_bipush (v := 9) hx hb dX5_extra_5 (by decide) ?_
    refine lv_icmp_le (tgt := 13) hx hb dX5_extra_7 (by decide) (fun c2 => ?_) (fun c2 => ?_)
    · have hw := hw.1 c2
      refine lv_aload_n hx hb dX5_extra_13 rfl (lv_at hl 0 rfl) ?_
      refine va_get (D := D) (ci := 5) (v := .int SP_extraNow) (C := RX5) (T := TX5) (N := 7) hx hb hts inlX5 hown hK hP 0 rfl rfl 5 (by decide) (hts (.fieldLink RX5 51 "SquarePlanes" "extraNow" "I") mw_2_6) (fun _ h9 => h9) rfl dX5_extra_14 ?_
      refine lv_istore_n (lv' := [(2, .int SP_extraNow), (0, .ref hSP), (1, .int p0)]) hx hb dX5_extra_17 rfl hl (by decide) rfl (fun ls hl => ?_)
      refine lv_aload_n hx hb dX5_extra_18 rfl (lv_at hl 1 rfl) ?_
      refine lv_iload_n hx hb dX5_extra_19 rfl (lv_at hl 2 rfl) ?_
      refine va_put (D := D) (ci := 5) (v := .int p0) (ty := tyX5 5) (C := RX5) (T := TX5) (N := 7) hx hb hts inlX5 tyX5 tyX5_ok nmX5 hown hK hP hD hS 0 rfl rfl 5 (by decide) (hts (.fieldLink RX5 51 "SquarePlanes" "extraNow" "I") mw_2_6) (fun _ h9 => h9) rfl (tyX5_ok 5 (by decide)) rfl rfl (Nat.le_of_ble_eq_true rfl) dX5_extra_20 (fun H locs hP hD hS => ?_)
      have hP : va_P D vwCl (List.flatten [wSP cy hSP hSP_rankings hSt hPo hRa SP_rankings SP_sizeNow p0 SP_version]) H := hP
      have hD : va_D A (List.flatten [wSP cy hSP hSP_rankings hSt hPo hRa SP_rankings SP_sizeNow p0 SP_version]) := hD
      refine lv_aload_n hx hb dX5_extra_23 rfl (lv_at hl 1 rfl) ?_
      refine lv_dup hx hb dX5_extra_24 rfl ?_
      refine va_get (D := D) (ci := 5) (v := .int SP_version) (C := RX5) (T := TX5) (N := 7) hx hb hts inlX5 hown hK hP 0 rfl rfl 6 (by decide) (hts (.fieldLink RX5 54 "SquarePlanes" "version" "I") mw_2_7) (fun _ h9 => h9) rfl dX5_extra_25 ?_
      refine lv_iconst (v := 1) hx hb dX5_extra_28 (by decide) ?_
      refine lv_iadd hx hb dX5_extra_29 ?_
      refine lv_topi (fun x1 ex1 => ?_)
      have hw := hw x1 ex1
      refine va_put (D := D) (ci := 5) (v := .int x1) (ty := tyX5 6) (C := RX5) (T := TX5) (N := 7) hx hb hts inlX5 tyX5 tyX5_ok nmX5 hown hK hP hD hS 0 rfl rfl 6 (by decide) (hts (.fieldLink RX5 54 "SquarePlanes" "version" "I") mw_2_7) (fun _ h9 => h9) rfl (tyX5_ok 6 (by decide)) rfl rfl (Nat.le_of_ble_eq_true rfl) dX5_extra_30 (fun H locs hP hD hS => ?_)
      have hP : va_P D vwCl (List.flatten [wSP cy hSP hSP_rankings hSt hPo hRa SP_rankings SP_sizeNow p0 x1]) H := hP
      have hD : va_D A (List.flatten [wSP cy hSP hSP_rankings hSt hPo hRa SP_rankings SP_sizeNow p0 x1]) := hD
      refine lv_iload_n hx hb dX5_extra_33 rfl (lv_at hl 0 rfl) ?_
      exact W.iret (v := SP_extraNow) hx hb hr (fun t ht hW => ⟨⟨SP_extraNow, (p0, x1), rfl, hw, ⟨by rw [ht]; exact hP, va_K.moved hW.alike hK, hD⟩⟩, hS.F ht⟩) hS.2.2 dX5_extra_34
    · have hw := hw.2 c2
      refine lv_bipush (v := (-2)) hx hb dX5_extra_10 (by decide) ?_
      exact W.iret (v := (-2)) hx hb hr (fun t ht hW => ⟨⟨(-2), (SP_extraNow, SP_version), rfl, hw, ⟨by rw [ht]; exact hP, va_K.moved hW.alike hK, hD⟩⟩, hS.F ht⟩) hS.2.2 dX5_extra_12
