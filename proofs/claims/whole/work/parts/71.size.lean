/-! LEVEL 3: the rankings of all sizes; size -/
theorem rv_up {n : Nat} {rv : Int32} (hn : n + 1 < 2 ^ 31) (h : rvOK n rv) : rvOK (n + 1) rv ∧ rv ≠ nI (n + 1) := by
  rcases h with h | ⟨m, hm, h⟩
  · refine ⟨Or.inl h, fun e => ?_⟩
    rw [h] at e
    have h1 : (nI (n + 1)).toInt = ((n + 1 : Nat) : Int) := by unfold nI; exact Int32.toInt_ofNat_of_lt hn
    rw [← e] at h1
    have h2 : (-1 : Int32).toInt = -1 := rfl
    omega
  · refine ⟨Or.inr ⟨m, by omega, h⟩, fun e => ?_⟩
    rw [h] at e
    have := (nI_eq (by omega) hn).mp e
    omega
theorem RI_up {v e e' n : Nat} {σ σ' : Nat → Nat → Int32} {M N O P : Nat → Int32} {kp ls rv : Int32} (hn : n + 1 < 2 ^ 31) (h : RI v σ e n M N O P kp ls rv) : RI v σ' e' (n + 1) M N O P kp ls rv := ⟨(rv_up hn h.1).1, fun q => absurd q (rv_up hn h.1).2⟩
theorem BI_up {v e e' n : Nat} {σ σ' : Nat → Nat → Int32} {c su sl ce bv : Int32} (hn : n + 1 < 2 ^ 31) (h : BI v σ e n c su sl ce bv) : BI v σ' e' (n + 1) c su sl ce bv := ⟨(rv_up hn h.1).1, fun q => absurd q (rv_up hn h.1).2⟩
def pack (cy : Nat → ClassId) (hPo : Nat) (σ : Nat → Nat → Int32) (e n u h : Nat) (o : va_W) : Prop := ∃ (a1 a2 a3 a4 a5 a6 hPl hBu b1 b2 b3 p1 p2 p3 p4 p5 p6 p7 p8 : Nat) (M N O P : Nat → Int32) (kp ls rv : Int32) (Cn Bg : Nat → Int32) (c su sl ce bv : Int32) (H A F : Nat → Int32) (fu fl : Int32) (LA LB AX XA YA ZA SA : Nat → Int32) (ac : Int32) (W : Nat → Int32), o = List.flatten [wRa cy h a1 a2 a3 a4 a5 a6 hPl hBu (2 * nPr u) (nPr u) M N O P kp ls rv Cn Bg, wBu cy hBu b1 b2 b3 hPl (nAx u) c su sl ce bv H A F fu fl, wPl cy hPl p1 p2 p3 p4 p5 p6 p7 p8 hPo (nPr u) (nPol u) (nI (nPol u)) (nI (nPr u)) LA LB AX XA YA ZA SA ac W] ∧ (∀ k, k < nPr u → LA k = nI (pA u k) ∧ LB k = nI (pB u k)) ∧ axT u AX XA YA ZA SA ∧ RI u σ e n M N O P kp ls rv ∧ BI u σ e n c su sl ce bv
theorem pack_up {cy : Nat → ClassId} {hPo : Nat} {σ σ' : Nat → Nat → Int32} {e e' n u h : Nat} {o : va_W} (hn : n + 1 < 2 ^ 31) (hp : pack cy hPo σ e n u h o) : pack cy hPo σ' e' (n + 1) u h o := by
  obtain ⟨a1, a2, a3, a4, a5, a6, hPl, hBu, b1, b2, b3, p1, p2, p3, p4, p5, p6, p7, p8, M, N, O, P, kp, ls, rv, Cn, Bg, c, su, sl, ce, bv, H, A, F, fu, fl, LA, LB, AX, XA, YA, ZA, SA, ac, W, e1, e2, e3, e4, e5⟩ := hp
  exact ⟨a1, a2, a3, a4, a5, a6, hPl, hBu, b1, b2, b3, p1, p2, p3, p4, p5, p6, p7, p8, M, N, O, P, kp, ls, rv, Cn, Bg, c, su, sl, ce, bv, H, A, F, fu, fl, LA, LB, AX, XA, YA, ZA, SA, ac, W, e1, e2, e3, RI_up hn e4, BI_up hn e5⟩
def oth (cy : Nat → ClassId) (hPo : Nat) (σ : Nat → Nat → Int32) (e n v : Nat) (rk : Nat → Option Nat) (u : Nat) (o : va_W) : Prop := (u = v → o = []) ∧ (u ≠ v → rk u = none → o = []) ∧ ∀ h, u ≠ v → rk u = some h → pack cy hPo σ e n u h o
def OTH (cy : Nat → ClassId) (hPo : Nat) (σ : Nat → Nat → Int32) (e n v : Nat) (rk : Nat → Option Nat) (O : va_W) : Prop := ∃ o1 o2 o3, O = o1 ++ (o2 ++ o3) ∧ oth cy hPo σ e n v rk 1 o1 ∧ oth cy hPo σ e n v rk 2 o2 ∧ oth cy hPo σ e n v rk 3 o3
theorem oth_up {cy : Nat → ClassId} {hPo : Nat} {σ σ' : Nat → Nat → Int32} {e e' n v u : Nat} {rk : Nat → Option Nat} {o : va_W} (hn : n + 1 < 2 ^ 31) (h : oth cy hPo σ e n v rk u o) : oth cy hPo σ' e' (n + 1) v rk u o := ⟨h.1, h.2.1, fun k a b => pack_up hn (h.2.2 k a b)⟩
theorem OTH_up {cy : Nat → ClassId} {hPo : Nat} {σ σ' : Nat → Nat → Int32} {e e' n v : Nat} {rk : Nat → Option Nat} {O : va_W} (hn : n + 1 < 2 ^ 31) (h : OTH cy hPo σ e n v rk O) : OTH cy hPo σ' e' (n + 1) v rk O := by
  obtain ⟨o1, o2, o3, e1, e2, e3, e4⟩ := h
  exact ⟨o1, o2, o3, e1, oth_up hn e2, oth_up hn e3, oth_up hn e4⟩
theorem s_X3_init {u : Nat} {Q : (Nat → Int32) → (Nat → Int32) → (Nat → Int32) → (Nat → Int32) → Int32 → Int32 → Int32 → (Nat → Int32) → (Nat → Int32) → Int32 → Int32 → Int32 → Int32 → Int32 → (Nat → Int32) → (Nat → Int32) → (Nat → Int32) → Int32 → Int32 → Prop} (h1 : 1 ≤ u) (h3 : u ≤ 3) (h : Q (fun _ => 0) (fun _ => 0) (fun _ => 0) (fun _ => 0) 0 0 (-1) (fun _ => 0) (fun _ => 0) 0 0 1 0 (-1) (fun _ => 0) (fun _ => 0) (fun _ => 0) 0 1) : wp_X3_init (2 * nPr u) (nPr u) (nAx u) (nPr u) (nPol u) (nI (nPr u)) (nI (nAx u)) Q := by
  have hb := nPr_b h1 h3
  have hal : nAx u ≤ nPr u := axL_len u (nPr u)
  have n1 : ¬ nI (nAx u) < 0 := nI_pos (by omega)
  have n2 : ¬ nI (nPr u) < 0 := nI_pos (by omega)
  have n3 : ¬ nI (2 * nPr u) < 0 := nI_pos (by omega)
  have e1 : (nI (nAx u)).toNatClampNeg = nAx u := nI_clamp (by omega)
  have e2 : (nI (nPr u)).toNatClampNeg = nPr u := nI_clamp (by omega)
  have e3 : (nI (2 * nPr u)).toNatClampNeg = 2 * nPr u := nI_clamp (by omega)
  unfold wp_X3_init wp_X0_init wp_X1_solutionCount
  rw [two_nI]
  exact ⟨n1, e1, by omega, n1, e1, by omega, n1, e1, by omega, n3, e3, by omega, n2, e2, by omega, n3, e3, by omega, n3, e3, by omega, h⟩
theorem rv_1 (n : Nat) : rvOK n (-1) := Or.inl rfl
theorem neg1_ne {n : Nat} (hn : n < 2 ^ 31) : (-1 : Int32) ≠ nI n := fun e => by
  have h1 : (nI n).toInt = (n : Int) := by unfold nI; exact Int32.toInt_ofNat_of_lt hn
  rw [← e] at h1
  have h2 : (-1 : Int32).toInt = -1 := rfl
  omega
set_option maxHeartbeats 4000000 in
set_option maxRecDepth 100000 in
theorem k_X5_rankingOfSize_s (l : Launch) (D : va_G) (cy : Nat → ClassId) (hSP hSPr hSt hPo hRa : Nat) (rk : Nat → Option Nat) (sn en ve : Int32) (u h sz : Nat) (h3 : u ≤ 3) (hrk : rk u = some h) : Met l yX5_rankingOfSize (wA yX5_rankingOfSize cX5_rankingOfSize 3 (some (.object "SquarePlanes$Ranking"))) { frames := 5, cells := 0, slots := 0, locals := 119 } (kPc [.ref hSP, .int (nI u)] D cy (List.flatten [wSP cy hSP hSPr hSt hPo hRa rk sn en ve]) sz) (va_Qr (fun (_ : Unit) => True) (fun _ b t => b = h ∧ kB D cy (va_A (List.flatten [wSP cy hSP hSPr hSt hPo hRa rk sn en ve]) sz) (List.flatten [wSP cy hSP hSPr hSt hPo hRa rk sn en ve]) t) (va_A (List.flatten [wSP cy hSP hSPr hSt hPo hRa rk sn en ve]) sz)) 0 0 (va_A (List.flatten [wSP cy hSP hSPr hSt hPo hRa rk sn en ve]) sz) := by
  refine Met.ofW (cc := cX5_rankingOfSize) (maxL := 3) (ret := (some (.object "SquarePlanes$Ranking"))) (by decide) rfl ?_
  intro p e s m args below meth c s₁ B hml hv
  obtain ⟨rfl, hsz, hN, hP, hK, hD0⟩ := hv
  have hx := B.exec
  have hb := B.bytes
  have hr := B.returns
  have hts0 := atoms_spec (ws := wA yX5_rankingOfSize cX5_rankingOfSize 3 (some (.object "SquarePlanes$Ranking"))) B.pre
  have hts := fun w (h : w ∈ wsL_law) => hts0 w (List.mem_cons_of_mem _ h)
  have hown : s.vm.findClass RX5 = some m.cls := findClass_of_methodNamed B.named
  have hlocks := B.notSynchronized
  subst hsz
  have hD := hD0.self (sz := s.heap.size)
  generalize hAe : va_A (List.flatten [wSP cy hSP hSPr hSt hPo hRa rk sn en ve]) s.heap.size = A at hD ⊢
  have hA : ∀ q : Nat, s.heap.size ≤ q → A q := fun q h => by rw [← hAe]; exact Or.inr h
  have hS : va_S A s.heap s.heap [] := va_S.rf
  have hP : va_P D vwCl (List.flatten [wSP cy hSP hSPr hSt hPo hRa rk sn en ve]) s.heap := hP
  have hl := lv_entry ([.ref hSP, .int (nI u)]) (n := 3) (Nat.le_of_ble_eq_true rfl)
  rw [lg_entry_eq]
  generalize (lg_sl ([.ref hSP, .int (nI u)]) ++ List.replicate (3 - (lg_sl ([.ref hSP, .int (nI u)])).length) Slot.unset).toArray = ls at hl ⊢
  have hl : lv_has ls 3 [(0, .ref hSP), (1, .int (nI u))] := hl
  have hin : vp_in (nI u) 4 := v_in h3
  have ec : (nI u).toNatClampNeg = u := nI_clamp (by omega)
  refine lv_aload_n hx hb dX5_rankingOfSize_0 rfl (lv_at hl 0 rfl) ?_
  refine va_get (D := D) (ci := 5) (v := .ref hSPr) (C := RX5) (T := TX5) (N := 7) hx hb hts inlX5 hown hK hP 0 rfl rfl 2 (by decide) (hts (.fieldLink RX5 27 "SquarePlanes" "rankings" "[LSquarePlanes$Ranking;") mw_1_21) (fun _ h9 => h9) rfl dX5_rankingOfSize_1 ?_
  refine lv_iload_n hx hb dX5_rankingOfSize_4 rfl (lv_at hl 1 rfl) ?_
  refine va_aldq hx hb hK hP 1 3 rfl rfl hin dX5_rankingOfSize_5 ?_
  rw [ec, hrk]
  refine W.eq (g2 := F0 m 6 ls [.ref h]) rfl ?_
  refine lv_astore_n (lv' := [(2, .ref h), (0, .ref hSP), (1, .int (nI u))]) hx hb dX5_rankingOfSize_6 rfl hl (by decide) rfl (fun ls hl => ?_)
  refine lv_aload_n hx hb dX5_rankingOfSize_7 rfl (lv_at hl 0 rfl) ?_
  refine lv_ifnonnull (tgt := 46) hx hb dX5_rankingOfSize_8 (by decide) ?_
  refine lv_aload_n hx hb dX5_rankingOfSize_46 rfl (lv_at hl 0 rfl) ?_
  exact W.aret (v := .ref h) hx hb hr (Or.inl ⟨_, rfl⟩) (Or.inr ⟨_, rfl⟩) (fun t ht hW => ⟨⟨(), h, rfl, trivial, rfl, ⟨by rw [ht]; exact hP, va_K.moved hW.alike hK, hD⟩⟩, hS.F ht⟩) hS.2.2 dX5_rankingOfSize_47
set_option maxHeartbeats 4000000 in
set_option maxRecDepth 100000 in
theorem k_X5_rankingOfSize_n (l : Launch) (D : va_G) (cy : Nat → ClassId) (hSP hSPr hSt hPo hRa : Nat) (rk : Nat → Option Nat) (sn en ve : Int32) (q1 q2 q3 q4 : Nat) (Xs Ys Zs CU : Nat → Int32) (cn : Int32) (u sz : Nat) (σ : Nat → Nat → Int32) (ee n : Nat) (h1 : 1 ≤ u) (h3 : u ≤ 3) (hn : n < 2 ^ 31) (hrk : rk u = none) (hT : tabP 145 Xs Ys Zs) (hC : cuT CU) : Met l yX5_rankingOfSize (wA yX5_rankingOfSize cX5_rankingOfSize 3 (some (.object "SquarePlanes$Ranking"))) { frames := 5, cells := 20, slots := (1102 + 3 * nAx u + nPr u + 7 * nPr u + nPol u + 3 * (2 * nPr u)), locals := 119 } (kPc [.ref hSP, .int (nI u)] D cy (List.flatten [wSP cy hSP hSPr hSt hPo hRa rk sn en ve, wPo cy hPo q1 q2 q3 q4 Xs Ys Zs CU cn]) sz) (va_Qr (fun (w : Nat × va_W) => pack cy hPo σ ee n u w.1 w.2) (fun w b t => b = w.1 ∧ kB D cy (va_A (List.flatten [wSP cy hSP hSPr hSt hPo hRa rk sn en ve, wPo cy hPo q1 q2 q3 q4 Xs Ys Zs CU cn]) sz) (List.flatten [wSP cy hSP hSPr hSt hPo hRa (va_up rk u (some w.1)) sn en ve, wPo cy hPo q1 q2 q3 q4 Xs Ys Zs CU cn, w.2]) t) (va_A (List.flatten [wSP cy hSP hSPr hSt hPo hRa rk sn en ve, wPo cy hPo q1 q2 q3 q4 Xs Ys Zs CU cn]) sz)) 20 (1102 + 3 * nAx u + nPr u + 7 * nPr u + nPol u + 3 * (2 * nPr u)) (va_A (List.flatten [wSP cy hSP hSPr hSt hPo hRa rk sn en ve, wPo cy hPo q1 q2 q3 q4 Xs Ys Zs CU cn]) sz) := by
  refine Met.ofW (cc := cX5_rankingOfSize) (maxL := 3) (ret := (some (.object "SquarePlanes$Ranking"))) (by decide) rfl ?_
  intro p e s m args below meth c s₁ B hml hv
  obtain ⟨rfl, hsz, hN, hP, hK, hD0⟩ := hv
  have hx := B.exec
  have hb := B.bytes
  have hr := B.returns
  have hts0 := atoms_spec (ws := wA yX5_rankingOfSize cX5_rankingOfSize 3 (some (.object "SquarePlanes$Ranking"))) B.pre
  have hts := fun w (h : w ∈ wsL_law) => hts0 w (List.mem_cons_of_mem _ h)
  have hown : s.vm.findClass RX5 = some m.cls := findClass_of_methodNamed B.named
  have hlocks := B.notSynchronized
  subst hsz
  have hD := hD0.self (sz := s.heap.size)
  generalize hAe : va_A (List.flatten [wSP cy hSP hSPr hSt hPo hRa rk sn en ve, wPo cy hPo q1 q2 q3 q4 Xs Ys Zs CU cn]) s.heap.size = A at hD ⊢
  have hA : ∀ q : Nat, s.heap.size ≤ q → A q := fun q h => by rw [← hAe]; exact Or.inr h
  have hS : va_S A s.heap s.heap [] := va_S.rf
  have hP : va_P D vwCl (List.flatten [wSP cy hSP hSPr hSt hPo hRa rk sn en ve, wPo cy hPo q1 q2 q3 q4 Xs Ys Zs CU cn]) s.heap := hP
  have hl := lv_entry ([.ref hSP, .int (nI u)]) (n := 3) (Nat.le_of_ble_eq_true rfl)
  rw [lg_entry_eq]
  generalize (lg_sl ([.ref hSP, .int (nI u)]) ++ List.replicate (3 - (lg_sl ([.ref hSP, .int (nI u)])).length) Slot.unset).toArray = ls at hl ⊢
  have hl : lv_has ls 3 [(0, .ref hSP), (1, .int (nI u))] := hl
  have hin : vp_in (nI u) 4 := v_in h3
  have ec : (nI u).toNatClampNeg = u := nI_clamp (by omega)
  refine W.cs (cells' := 0) (slots' := (0)) rfl rfl ?_
  refine lv_aload_n hx hb dX5_rankingOfSize_0 rfl (lv_at hl 0 rfl) ?_
  refine va_get (D := D) (ci := 5) (v := .ref hSPr) (C := RX5) (T := TX5) (N := 7) hx hb hts inlX5 hown hK hP 0 rfl rfl 2 (by decide) (hts (.fieldLink RX5 27 "SquarePlanes" "rankings" "[LSquarePlanes$Ranking;") mw_1_21) (fun _ h9 => h9) rfl dX5_rankingOfSize_1 ?_
  refine lv_iload_n hx hb dX5_rankingOfSize_4 rfl (lv_at hl 1 rfl) ?_
  refine va_aldq hx hb hK hP 1 3 rfl rfl hin dX5_rankingOfSize_5 ?_
  rw [ec, hrk]
  refine W.eq (g2 := F0 m 6 ls [.null]) rfl ?_
  refine lv_astore_nN (lv' := [(2, .null), (0, .ref hSP), (1, .int (nI u))]) hx hb dX5_rankingOfSize_6 rfl hl (by decide) rfl (fun ls hl => ?_)
  refine lv_aload_nN hx hb dX5_rankingOfSize_7 rfl (lv_at hl 0 rfl) ?_
  refine lv_ifnonnullN hx hb dX5_rankingOfSize_8 ?_
  refine va_new (ci := 3) (fs := [.null, .null, .null, .null, .null, .null, .int 0, .int 0, .int 0, .null, .null]) (C := RX3) (T := TX3) (N := 11) hx hb hts inlX3 tyX3 tyX3_ok hown (hts (.classLink RX5 25 RX3) mw_1_20) (hts (.instantiable RX3 11) mw_1_23) (hts (.initialized RX3) mw_2_0) hK hP hD hS hA rfl (fun j hj => by rcases (show j = 0 ∨ j = 1 ∨ j = 2 ∨ j = 3 ∨ j = 4 ∨ j = 5 ∨ j = 6 ∨ j = 7 ∨ j = 8 ∨ j = 9 ∨ j = 10 by omega) with rfl | rfl | rfl | rfl | rfl | rfl | rfl | rfl | rfl | rfl | rfl <;> rfl) (by show 0 + 1 ≤ 20; omega) (by show (0) + 11 ≤ (1102 + 3 * nAx u + nPr u + 7 * nPr u + nPol u + 3 * (2 * nPr u)); omega) dX5_rankingOfSize_11 (fun hR H hP hD hS => ?_)
  have hP : va_P D vwCl (List.flatten [wSP cy hSP hSPr hSt hPo hRa rk sn en ve, wPo cy hPo q1 q2 q3 q4 Xs Ys Zs CU cn, ([(hR, .inr (3, [.null, .null, .null, .null, .null, .null, .int 0, .int 0, .int 0, .null, .null]))] : va_W)]) H := hP
  have hD : va_D A (List.flatten [wSP cy hSP hSPr hSt hPo hRa rk sn en ve, wPo cy hPo q1 q2 q3 q4 Xs Ys Zs CU cn, ([(hR, .inr (3, [.null, .null, .null, .null, .null, .null, .int 0, .int 0, .int 0, .null, .null]))] : va_W)]) := hD
  refine W.widen (k := 1) (n := (11)) (by omega) (by omega) ?_
  refine lv_dup hx hb dX5_rankingOfSize_14 rfl ?_
  refine va_new (ci := 1) (fs := [.null, .int 0, .int 0, .null, .null, .null, .null, .null, .null, .null, .int 0, .null]) (C := RX1) (T := TX1) (N := 12) hx hb hts inlX1 tyX1 tyX1_ok hown (hts (.classLink RX5 35 RX1) mw_2_1) (hts (.instantiable RX1 12) mw_2_2) (hts (.initialized RX1) mw_2_3) hK hP hD hS hA rfl (fun j hj => by rcases (show j = 0 ∨ j = 1 ∨ j = 2 ∨ j = 3 ∨ j = 4 ∨ j = 5 ∨ j = 6 ∨ j = 7 ∨ j = 8 ∨ j = 9 ∨ j = 10 ∨ j = 11 by omega) with rfl | rfl | rfl | rfl | rfl | rfl | rfl | rfl | rfl | rfl | rfl | rfl <;> rfl) (by show 1 + 1 ≤ 20; omega) (by show (11) + 12 ≤ (1102 + 3 * nAx u + nPr u + 7 * nPr u + nPol u + 3 * (2 * nPr u)); omega) dX5_rankingOfSize_15 (fun hPl H hP hD hS => ?_)
  have hP : va_P D vwCl (List.flatten [wSP cy hSP hSPr hSt hPo hRa rk sn en ve, wPo cy hPo q1 q2 q3 q4 Xs Ys Zs CU cn, ([(hR, .inr (3, [.null, .null, .null, .null, .null, .null, .int 0, .int 0, .int 0, .null, .null]))] : va_W), ([(hPl, .inr (1, [.null, .int 0, .int 0, .null, .null, .null, .null, .null, .null, .null, .int 0, .null]))] : va_W)]) H := hP
  have hD : va_D A (List.flatten [wSP cy hSP hSPr hSt hPo hRa rk sn en ve, wPo cy hPo q1 q2 q3 q4 Xs Ys Zs CU cn, ([(hR, .inr (3, [.null, .null, .null, .null, .null, .null, .int 0, .int 0, .int 0, .null, .null]))] : va_W), ([(hPl, .inr (1, [.null, .int 0, .int 0, .null, .null, .null, .null, .null, .null, .null, .int 0, .null]))] : va_W)]) := hD
  refine W.widen (k := 2) (n := (23)) (by omega) (by omega) ?_
  refine lv_dup hx hb dX5_rankingOfSize_18 rfl ?_
  refine lv_aload_n hx hb dX5_rankingOfSize_19 rfl (lv_at hl 1 rfl) ?_
  refine va_get (D := D) (ci := 5) (v := .ref hPo) (C := RX5) (T := TX5) (N := 7) hx hb hts inlX5 hown hK hP 0 rfl rfl 1 (by decide) (hts (.fieldLink RX5 21 "SquarePlanes" "poles" "LSquarePlanes$Poles;") mw_1_19) (fun _ h9 => h9) rfl dX5_rankingOfSize_20 ?_
  refine lv_aload_n hx hb dX5_rankingOfSize_23 rfl (lv_at hl 1 rfl) ?_
  refine va_get (D := D) (ci := 5) (v := .ref hPo) (C := RX5) (T := TX5) (N := 7) hx hb hts inlX5 hown hK hP 0 rfl rfl 1 (by decide) (hts (.fieldLink RX5 21 "SquarePlanes" "poles" "LSquarePlanes$Poles;") mw_1_19) (fun _ h9 => h9) rfl dX5_rankingOfSize_24 ?_
  refine va_get (D := D) (ci := 2) (v := .ref q4) (C := RX2) (T := TX2) (N := 5) hx hb hts inlX2 hown hK hP 2 rfl rfl 3 (by decide) (hts (.fieldLink RX5 37 "SquarePlanes$Poles" "countUpTo" "[I") mw_2_4) (fun _ h9 => h9) rfl dX5_rankingOfSize_27 ?_
  refine lv_iload_n hx hb dX5_rankingOfSize_30 rfl (lv_at hl 2 rfl) ?_
  refine va_iald hx hb hK hP 6 0 rfl rfl hin dX5_rankingOfSize_31 ?_
  rw [ec, hC.at h1 h3]
  have hw := s_X1_init (v := u) (PX := Xs) (PY := Ys) (PZ := Zs) (Q := fun w1 w2 w3 w4 w5 w6 w7 w8 w9 w10 w11 => w1 = nI (nPol u) ∧ w2 = nI (nPr u) ∧ (∀ k, k < nPr u → w3 k = nI (pA u k) ∧ w4 k = nI (pB u k)) ∧ axT u w5 w6 w7 w8 w9 ∧ w10 = nI (nAx u)) h1 h3 (fun k hk => hT k (by have := nPol_le u; omega)) (fun A B O X Y Z S g1 g2 g3 => ⟨rfl, rfl, g1, ⟨⟨_, g2⟩, g3⟩, rfl⟩)
  refine kd_v [8, 2, 3, 4, 5, 6] [0, 1, 7] hP hD hS hA rfl rfl rfl (by decide) (va_runI (As := [.ref hPo, .int (nI (nPol u))]) (rest := [.ref hPl, .ref hR, .ref hR]) ⟨hx, hb, hml, hown, hts⟩ (k_X1_init l D cy hPl hPo q1 q2 q3 q4 (nPr u) (nPol u) Xs Ys Zs CU cn (nI (nPol u)) _ _ hw) (cwI 2 hts (gA mw_4_3) rfl rfl rfl (hts (.initialized RX1) mw_2_3) (hts (.methodLink RX5 41 yX1_init) mw_4_1) (hts (.instanceMethod yX1_init) mw_4_2) rfl (by decide +kernel) ⟨Nat.le_of_ble_eq_true rfl, Nat.le_of_ble_eq_true rfl⟩) (kPre hN hK hP hD [8, 2, 3, 4, 5, 6] rfl rfl _) rfl rfl hl.1 rfl (lv_room (Nat.le_of_ble_eq_true rfl)) dX5_rankingOfSize_32 ⟨by show 2 + 8 ≤ 20; omega, by show (23) + (0 + 7 * nPr u + nPol u) ≤ (1102 + 3 * nAx u + nPr u + 7 * nPr u + nPol u + 3 * (2 * nPr u)); omega⟩) (fun w H locs hw hP hD hS => ?_)
  obtain ⟨p1, p2, p3, p4, p5, p6, p7, p8, w1, w2, w3, w4, w5, w6, w7, w8, w9, w10, w11⟩ := w
  try dsimp only at hw
  have hP : va_P D vwCl (List.flatten [wSP cy hSP hSPr hSt hPo hRa rk sn en ve, ([(hR, .inr (3, [.null, .null, .null, .null, .null, .null, .int 0, .int 0, .int 0, .null, .null]))] : va_W), wPl cy hPl p1 p2 p3 p4 p5 p6 p7 p8 hPo (nPr u) (nPol u) w1 w2 w3 w4 w5 w6 w7 w8 w9 w10 w11, wPo cy hPo q1 q2 q3 q4 Xs Ys Zs CU cn]) H := hP.sub [0, 1, 2, 3, 4, 5, 6, 7, 8, 9, 10, 11, 12, 13, 14, 15, 16] rfl
  have hD : va_D A (List.flatten [wSP cy hSP hSPr hSt hPo hRa rk sn en ve, ([(hR, .inr (3, [.null, .null, .null, .null, .null, .null, .int 0, .int 0, .int 0, .null, .null]))] : va_W), wPl cy hPl p1 p2 p3 p4 p5 p6 p7 p8 hPo (nPr u) (nPol u) w1 w2 w3 w4 w5 w6 w7 w8 w9 w10 w11, wPo cy hPo q1 q2 q3 q4 Xs Ys Zs CU cn]) := hD.sub [0, 1, 2, 3, 4, 5, 6, 7, 8, 9, 10, 11, 12, 13, 14, 15, 16] rfl rfl
  refine W.widen (k := 10) (n := (23 + 7 * nPr u + nPol u)) (by omega) (by omega) ?_
  obtain ⟨g1, g2, g3, g4, g5⟩ := hw
  subst g1
  subst g2
  subst g5
  have hw := s_X3_init (u := u) (Q := fun z1 z2 z3 z4 z5 z6 z7 z8 z9 z10 z11 z12 z13 z14 z15 z16 z17 z18 z19 => z7 = -1 ∧ z14 = -1) h1 h3 ⟨rfl, rfl⟩
  refine kd_v [2, 3, 4, 5, 6, 7, 8, 9, 10, 11] ([0, 1] ++ [12, 13, 14, 15, 16]) hP hD hS hA rfl rfl rfl (by decide) (va_runI (As := [.ref hPl]) (rest := [.ref hR]) ⟨hx, hb, hml, hown, hts⟩ (k_X3_init l D cy hR hPl p1 p2 p3 p4 p5 p6 p7 p8 hPo (2 * nPr u) (nPr u) (nAx u) (nPr u) (nPol u) (nI (nPol u)) (nI (nPr u)) w3 w4 w5 w6 w7 w8 w9 (nI (nAx u)) w11 _ _ hw) (cwI 1 hts (gA mw_5_21) rfl rfl rfl (hts (.initialized RX3) mw_2_0) (hts (.methodLink RX5 44 yX3_init) mw_5_19) (hts (.instanceMethod yX3_init) mw_5_20) rfl (by decide +kernel) ⟨Nat.le_of_ble_eq_true rfl, Nat.le_of_ble_eq_true rfl⟩) (kPre hN hK hP hD [2, 3, 4, 5, 6, 7, 8, 9, 10, 11] rfl rfl _) rfl rfl hl.1 rfl (lv_room (Nat.le_of_ble_eq_true rfl)) dX5_rankingOfSize_35 ⟨by show 10 + 10 ≤ 20; omega, by show (23 + 7 * nPr u + nPol u) + (1079 + 3 * nAx u + nPr u + 3 * (2 * nPr u)) ≤ (1102 + 3 * nAx u + nPr u + 7 * nPr u + nPol u + 3 * (2 * nPr u)); omega⟩) (fun w H locs hw hP hD hS => ?_)
  obtain ⟨a1, a2, a3, a4, a5, a6, hBu, b1, b2, b3, z1, z2, z3, z4, z5, z6, z7, z8, z9, z10, z11, z12, z13, z14, z15, z16, z17, z18, z19⟩ := w
  try dsimp only at hw
  have hP : va_P D vwCl (List.flatten [wSP cy hSP hSPr hSt hPo hRa rk sn en ve, wPo cy hPo q1 q2 q3 q4 Xs Ys Zs CU cn, wRa cy hR a1 a2 a3 a4 a5 a6 hPl hBu (2 * nPr u) (nPr u) z1 z2 z3 z4 z5 z6 z7 z8 z9, wBu cy hBu b1 b2 b3 hPl (nAx u) z10 z11 z12 z13 z14 z15 z16 z17 z18 z19, wPl cy hPl p1 p2 p3 p4 p5 p6 p7 p8 hPo (nPr u) (nPol u) (nI (nPol u)) (nI (nPr u)) w3 w4 w5 w6 w7 w8 w9 (nI (nAx u)) w11]) H := hP.sub [0, 1, 2, 3, 4, 5, 6, 7, 8, 9, 10, 11, 12, 13, 14, 15, 16, 17, 18, 19, 20, 21, 22, 23, 24, 25, 26] rfl
  have hD : va_D A (List.flatten [wSP cy hSP hSPr hSt hPo hRa rk sn en ve, wPo cy hPo q1 q2 q3 q4 Xs Ys Zs CU cn, wRa cy hR a1 a2 a3 a4 a5 a6 hPl hBu (2 * nPr u) (nPr u) z1 z2 z3 z4 z5 z6 z7 z8 z9, wBu cy hBu b1 b2 b3 hPl (nAx u) z10 z11 z12 z13 z14 z15 z16 z17 z18 z19, wPl cy hPl p1 p2 p3 p4 p5 p6 p7 p8 hPo (nPr u) (nPol u) (nI (nPol u)) (nI (nPr u)) w3 w4 w5 w6 w7 w8 w9 (nI (nAx u)) w11]) := hD.sub [0, 1, 2, 3, 4, 5, 6, 7, 8, 9, 10, 11, 12, 13, 14, 15, 16, 17, 18, 19, 20, 21, 22, 23, 24, 25, 26] rfl rfl
  refine W.widen (k := 20) (n := (1102 + 3 * nAx u + nPr u + 7 * nPr u + nPol u + 3 * (2 * nPr u))) (by omega) (by omega) ?_
  refine lv_astore_n (lv' := [(2, .ref hR), (0, .ref hSP), (1, .int (nI u))]) hx hb dX5_rankingOfSize_38 rfl hl (by decide) rfl (fun ls hl => ?_)
  refine lv_aload_n hx hb dX5_rankingOfSize_39 rfl (lv_at hl 1 rfl) ?_
  refine va_get (D := D) (ci := 5) (v := .ref hSPr) (C := RX5) (T := TX5) (N := 7) hx hb hts inlX5 hown hK hP 0 rfl rfl 2 (by decide) (hts (.fieldLink RX5 27 "SquarePlanes" "rankings" "[LSquarePlanes$Ranking;") mw_1_21) (fun _ h9 => h9) rfl dX5_rankingOfSize_40 ?_
  refine lv_iload_n hx hb dX5_rankingOfSize_43 rfl (lv_at hl 2 rfl) ?_
  refine lv_aload_n hx hb dX5_rankingOfSize_44 rfl (lv_at hl 0 rfl) ?_
  refine va_astq (r := (RX3, TX3, 11)) hx hb hK hP hD hS 1 3 7 3 rfl rfl rfl rfl hin dX5_rankingOfSize_45 (fun H locs hP hD hS => ?_)
  rw [ec] at hP hD
  have hP : va_P D vwCl (List.flatten [wSP cy hSP hSPr hSt hPo hRa (va_up rk u (some hR)) sn en ve, wPo cy hPo q1 q2 q3 q4 Xs Ys Zs CU cn, wRa cy hR a1 a2 a3 a4 a5 a6 hPl hBu (2 * nPr u) (nPr u) z1 z2 z3 z4 z5 z6 z7 z8 z9, wBu cy hBu b1 b2 b3 hPl (nAx u) z10 z11 z12 z13 z14 z15 z16 z17 z18 z19, wPl cy hPl p1 p2 p3 p4 p5 p6 p7 p8 hPo (nPr u) (nPol u) (nI (nPol u)) (nI (nPr u)) w3 w4 w5 w6 w7 w8 w9 (nI (nAx u)) w11]) H := hP
  have hD : va_D A (List.flatten [wSP cy hSP hSPr hSt hPo hRa (va_up rk u (some hR)) sn en ve, wPo cy hPo q1 q2 q3 q4 Xs Ys Zs CU cn, wRa cy hR a1 a2 a3 a4 a5 a6 hPl hBu (2 * nPr u) (nPr u) z1 z2 z3 z4 z5 z6 z7 z8 z9, wBu cy hBu b1 b2 b3 hPl (nAx u) z10 z11 z12 z13 z14 z15 z16 z17 z18 z19, wPl cy hPl p1 p2 p3 p4 p5 p6 p7 p8 hPo (nPr u) (nPol u) (nI (nPol u)) (nI (nPr u)) w3 w4 w5 w6 w7 w8 w9 (nI (nAx u)) w11]) := hD
  refine lv_aload_n hx hb dX5_rankingOfSize_46 rfl (lv_at hl 0 rfl) ?_
  exact W.aret (v := .ref hR) hx hb hr (Or.inl ⟨_, rfl⟩) (Or.inr ⟨_, rfl⟩) (fun t ht hW => ⟨⟨(hR, List.flatten [wRa cy hR a1 a2 a3 a4 a5 a6 hPl hBu (2 * nPr u) (nPr u) z1 z2 z3 z4 z5 z6 z7 z8 z9, wBu cy hBu b1 b2 b3 hPl (nAx u) z10 z11 z12 z13 z14 z15 z16 z17 z18 z19, wPl cy hPl p1 p2 p3 p4 p5 p6 p7 p8 hPo (nPr u) (nPol u) (nI (nPol u)) (nI (nPr u)) w3 w4 w5 w6 w7 w8 w9 (nI (nAx u)) w11]), hR, rfl, ⟨a1, a2, a3, a4, a5, a6, hPl, hBu, b1, b2, b3, p1, p2, p3, p4, p5, p6, p7, p8, z1, z2, z3, z4, z5, z6, z7, z8, z9, z10, z11, z12, z13, z14, z15, z16, z17, z18, z19, w3, w4, w5, w6, w7, w8, w9, (nI (nAx u)), w11, rfl, g3, g4, ⟨by rw [hw.1]; exact rv_1 n, fun q => absurd (hw.1.symm.trans q) (neg1_ne hn)⟩, ⟨by rw [hw.2]; exact rv_1 n, fun q => absurd (hw.2.symm.trans q) (neg1_ne hn)⟩⟩, rfl, ⟨by rw [ht]; exact hP, va_K.moved hW.alike hK, hD⟩⟩, hS.F ht⟩) hS.2.2 dX5_rankingOfSize_47
