/-! LEVEL 3: size of the class, closed -/
theorem kB_perm {D : va_G} {cy : Nat → ClassId} {A : Nat → Prop} {C C' : va_W} {t : State} (hp : C.Perm C') (h : kB D cy A C t) : kB D cy A C' t := by
  obtain ⟨h1, h2, h3⟩ := h
  refine ⟨fl_P_iff.mpr (fun q hq => fl_P_iff.mp h1 q (hp.mem_iff.mpr hq)), h2, fl_D_iff.mpr ⟨?_, fun q hq => (fl_D_iff.mp h3).2 q (hp.mem_iff.mpr hq)⟩⟩
  exact (hp.pairwise_iff (fun h => Ne.symm h)).mp (fl_D_iff.mp h3).1
theorem cl_ip {l : Launch} {y : MethodName} {wz : List Cond} {rm : Room} {D : va_G} {cy : Nat → ClassId} {As : List Value} {Ls Lc Lr : List va_W} {sz mc ms : Nat} {S : Type} {post : Int32 → S → Prop} {w1 : S → List va_W} {G : Int32 → va_W → Prop} (h : Met l y wz rm (kPc As D cy Lc.flatten sz) (va_Qi post (fun u t => kB D cy (va_A Lc.flatten sz) (w1 u).flatten t) (va_A Lc.flatten sz)) mc ms (va_A Lc.flatten sz)) (isC isR : List Nat) (hC : isC.map (fun i => Ls[i]?) = Lc.map some) (hnC : va_nd isC = true) (hR : isR.map (fun i => Ls[i]?) = Lr.map some) (hnR : va_nd isR = true) (hdis : ∀ i ∈ isR, i ∉ isC) (hG : ∀ r u, post r u → ∃ C', ((Lr ++ w1 u).flatten).Perm C' ∧ G r C') :
    Met l y wz rm (kPc As D cy Ls.flatten sz) (va_Qi (fun r (C : va_W) => G r C) (fun C t => kB D cy (va_A Ls.flatten sz) C t) (va_A Ls.flatten sz)) mc ms (va_A Ls.flatten sz) := by
  refine met_cons h (kPc_sub isC hC hnC) ?_ (fl_A hC)
  intro a s o t hp hq
  obtain ⟨⟨r, u, ho, hpo, hP1, hK1, hD1⟩, hf⟩ := hq
  obtain ⟨C', hpm, hG'⟩ := hG r u hpo
  obtain ⟨_, q1, _, q3, _, q5⟩ := hp
  subst q1
  have hD : va_D (va_A Ls.flatten s.heap.size) Ls.flatten := q5.self
  obtain ⟨hPj, hDj⟩ := fl_join q3 hD isC isR hC hR hnR hdis hf.2 (fl_A hC) hP1 hD1
  exact ⟨⟨r, C', ho, hG', kB_perm hpm ⟨hPj, hK1, hDj⟩⟩, hf.1, fun q h1 h2 => hf.2 q h1 (fun h3 => h2 (fl_A hC q h3))⟩
section PM
variable {α : Type}
theorem pm_a (X P S Y Z : List α) : (X ++ (P ++ (S ++ (Y ++ Z)))).Perm (Y ++ (P ++ (S ++ (X ++ Z)))) := by
  have s1 : (X ++ (P ++ (S ++ (Y ++ Z)))).Perm (X ++ (P ++ (Y ++ (S ++ Z)))) := ((List.perm_append_comm_assoc S Y Z).append_left P).append_left X
  have s2 : (X ++ (P ++ (Y ++ (S ++ Z)))).Perm (X ++ (Y ++ (P ++ (S ++ Z)))) := (List.perm_append_comm_assoc P Y (S ++ Z)).append_left X
  have s3 : (X ++ (Y ++ (P ++ (S ++ Z)))).Perm (Y ++ (X ++ (P ++ (S ++ Z)))) := List.perm_append_comm_assoc X Y (P ++ (S ++ Z))
  have s4 : (Y ++ (X ++ (P ++ (S ++ Z)))).Perm (Y ++ (P ++ (X ++ (S ++ Z)))) := (List.perm_append_comm_assoc X P (S ++ Z)).append_left Y
  have s5 : (Y ++ (P ++ (X ++ (S ++ Z)))).Perm (Y ++ (P ++ (S ++ (X ++ Z)))) := ((List.perm_append_comm_assoc X S Z).append_left P).append_left Y
  exact s1.trans (s2.trans (s3.trans (s4.trans s5)))
theorem pm_e (X P S O Q : List α) : (X ++ (P ++ (S ++ (O ++ Q)))).Perm (Q ++ (X ++ (P ++ (S ++ O)))) := by
  have : X ++ (P ++ (S ++ (O ++ Q))) = (X ++ (P ++ (S ++ O))) ++ Q := by simp [List.append_assoc]
  rw [this]
  exact List.perm_append_comm
/-- the ranking of another size, made before, comes to the front -/
theorem pm_s {X P S W V Y Z Q : List α} (hW : W.Perm (Y ++ Z)) (hV : V.Perm (X ++ Z)) : (X ++ (P ++ (S ++ (W ++ Q)))).Perm (Q ++ (Y ++ (P ++ (S ++ V)))) := by
  have s1 : (X ++ (P ++ (S ++ (W ++ Q)))).Perm (Q ++ (X ++ (P ++ (S ++ W)))) := by
    have : X ++ (P ++ (S ++ (W ++ Q))) = (X ++ (P ++ (S ++ W))) ++ Q := by simp [List.append_assoc]
    rw [this]
    exact List.perm_append_comm
  have s2 : (X ++ (P ++ (S ++ W))).Perm (X ++ (P ++ (S ++ (Y ++ Z)))) := ((hW.append_left S).append_left P).append_left X
  have s3 := pm_a X P S Y Z
  have s4 : (Y ++ (P ++ (S ++ (X ++ Z)))).Perm (Y ++ (P ++ (S ++ V))) := ((hV.symm.append_left S).append_left P).append_left Y
  exact s1.trans ((s2.trans (s3.trans s4)).append_left Q)
/-- a ranking that is made now -/
theorem pm_n {X P S W V Y Q : List α} (hV : V.Perm (X ++ W)) : (X ++ (S ++ (W ++ (Q ++ (P ++ Y))))).Perm (Q ++ (Y ++ (P ++ (S ++ V)))) := by
  have s1 : (X ++ (S ++ (W ++ (Q ++ (P ++ Y))))).Perm (Q ++ (X ++ (S ++ (W ++ (P ++ Y))))) := by
    have a1 : (W ++ (Q ++ (P ++ Y))).Perm (Q ++ (W ++ (P ++ Y))) := List.perm_append_comm_assoc W Q (P ++ Y)
    have a2 : (S ++ (Q ++ (W ++ (P ++ Y)))).Perm (Q ++ (S ++ (W ++ (P ++ Y)))) := List.perm_append_comm_assoc S Q _
    have a3 : (X ++ (Q ++ (S ++ (W ++ (P ++ Y))))).Perm (Q ++ (X ++ (S ++ (W ++ (P ++ Y))))) := List.perm_append_comm_assoc X Q _
    exact (((a1.append_left S).trans a2).append_left X).trans a3
  have s2 : (X ++ (S ++ (W ++ (P ++ Y)))).Perm ((P ++ Y) ++ (X ++ (S ++ W))) := by
    have : X ++ (S ++ (W ++ (P ++ Y))) = (X ++ (S ++ W)) ++ (P ++ Y) := by simp [List.append_assoc]
    rw [this]
    exact List.perm_append_comm
  have s3 : ((P ++ Y) ++ (X ++ (S ++ W))).Perm ((Y ++ P) ++ (X ++ (S ++ W))) := List.perm_append_comm.append_right _
  have s4 : (X ++ (S ++ W)).Perm (S ++ (X ++ W)) := List.perm_append_comm_assoc X S W
  have s5 : (S ++ (X ++ W)).Perm (S ++ V) := hV.symm.append_left S
  have s6 : ((Y ++ P) ++ (X ++ (S ++ W))).Perm (Y ++ (P ++ (S ++ V))) := by
    rw [List.append_assoc]
    exact ((s4.trans s5).append_left P).append_left Y
  exact s1.trans ((s2.trans (s3.trans s6)).append_left Q)
end PM
theorem WC_pk {cy : Nat → ClassId} {hSP hSPr hSt hPo h : Nat} {rk : Nat → Option Nat} {σ : Nat → Nat → Int32} {e n u : Nat} {q1 q2 q3 q4 : Nat} {Xs Ys Zs CU : Nat → Int32} {cn : Int32} {t1 t2 t3 t4 t5 t6 : Nat} {o O' : va_W} (h1 : 1 ≤ u) (h3 : u ≤ 3) (he : e ≤ 9) (hw : wfS σ) (hT : tabP 145 Xs Ys Zs) (hCU : cuT CU) (hrk : rk u = some h) (hp : pack cy hPo σ e n u h o) (hO : OTH cy hPo σ e n u rk O') : WC cy hSP σ u e n (wSP cy hSP hSPr hSt hPo h rk (nI u) (nI e) (nI n) ++ (o ++ (wPo cy hPo q1 q2 q3 q4 Xs Ys Zs CU cn ++ (wSt cy hSt t1 t2 t3 t4 t5 t6 (σ 0) (σ 1) (σ 2) (σ 3) (σ 4) (σ 5) ++ O')))) := by
  obtain ⟨a1, a2, a3, a4, a5, a6, hPl, hBu, b1, b2, b3, p1, p2, p3, p4, p5, p6, p7, p8, M, N, O, P, kp, ls, rv, Cn, Bg, c, su, sl, ce, bv, H, A, F, fu, fl, LA, LB, AX, XA, YA, ZA, SA, ac, W, g1, g2, g3, g4, g5⟩ := hp
  subst g1
  refine ⟨hSPr, hSt, hPo, h, a1, a2, a3, a4, a5, a6, hPl, hBu, b1, b2, b3, p1, p2, p3, p4, p5, p6, p7, p8, q1, q2, q3, q4, t1, t2, t3, t4, t5, t6, rk, M, N, O, P, kp, ls, rv, Cn, Bg, c, su, sl, ce, bv, H, A, F, fu, fl, LA, LB, AX, XA, YA, ZA, SA, ac, W, Xs, Ys, Zs, CU, cn, O', ?_, h1, h3, he, hw, hT, hCU, g2, g3, g4, g5, hrk, hO⟩
  simp only [List.flatten_cons, List.flatten_nil, List.append_nil, List.append_assoc]
theorem oth_sw {cy : Nat → ClassId} {hPo : Nat} {σ : Nat → Nat → Int32} {e n v u i hRa : Nat} {rk rk' : Nat → Option Nat} {o X : va_W} (huv : u ≠ v) (hv : rk v = some hRa) (hrk : ∀ j, j ≠ u → rk' j = rk j) (hX : pack cy hPo σ e n v hRa X) (h : oth cy hPo σ e n v rk i o) : oth cy hPo σ e n u rk' i (if i = u then [] else if i = v then X else o) := by
  refine ⟨fun c => if_pos c, fun c d => ?_, fun k c d => ?_⟩
  · rw [hrk i c] at d
    rw [if_neg c]
    by_cases q : i = v
    · subst q; rw [hv] at d; cases d
    · rw [if_neg q]; exact h.2.1 q d
  · rw [hrk i c] at d
    rw [if_neg c]
    by_cases q : i = v
    · subst q
      rw [hv] at d
      rw [if_pos rfl, ← Option.some.inj d]
      exact hX
    · rw [if_neg q]; exact h.2.2 k q d
theorem OTH_s {cy : Nat → ClassId} {hPo : Nat} {σ : Nat → Nat → Int32} {e n v u hRa h : Nat} {rk : Nat → Option Nat} {O X : va_W} (h1 : 1 ≤ u) (h3 : u ≤ 3) (v1 : 1 ≤ v) (v3 : v ≤ 3) (huv : u ≠ v) (hv : rk v = some hRa) (hu : rk u = some h) (hX : pack cy hPo σ e n v hRa X) (hO : OTH cy hPo σ e n v rk O) : ∃ Y Z V, pack cy hPo σ e n u h Y ∧ O.Perm (Y ++ Z) ∧ V.Perm (X ++ Z) ∧ OTH cy hPo σ e n u rk V := by
  obtain ⟨o1, o2, o3, rfl, g2, g3, g4⟩ := hO
  have s1 := oth_sw (rk' := rk) huv hv (fun _ _ => rfl) hX g2
  have s2 := oth_sw (rk' := rk) huv hv (fun _ _ => rfl) hX g3
  have s3 := oth_sw (rk' := rk) huv hv (fun _ _ => rfl) hX g4
  have cu : u = 1 ∨ u = 2 ∨ u = 3 := by omega
  have cv : v = 1 ∨ v = 2 ∨ v = 3 := by omega
  rcases cu with e1 | e1 | e1 <;> rcases cv with e2 | e2 | e2 <;> subst e1 <;> subst e2 <;> first | (exact absurd rfl huv) | skip
  · have z := g3.1 rfl
    subst z
    exact ⟨o1, o3, _, g2.2.2 h huv hu, (by (try simp only [List.append_nil, List.nil_append]); first | exact List.Perm.refl _ | exact List.perm_append_comm), (by (try simp only [List.append_nil, List.nil_append]); first | exact List.Perm.refl _ | exact List.perm_append_comm), [], X, o3, rfl, s1, s2, s3⟩
  · have z := g4.1 rfl
    subst z
    exact ⟨o1, o2, _, g2.2.2 h huv hu, (by (try simp only [List.append_nil, List.nil_append]); first | exact List.Perm.refl _ | exact List.perm_append_comm), (by (try simp only [List.append_nil, List.nil_append]); first | exact List.Perm.refl _ | exact List.perm_append_comm), [], o2, X, rfl, s1, s2, s3⟩
  · have z := g2.1 rfl
    subst z
    exact ⟨o2, o3, _, g3.2.2 h huv hu, (by (try simp only [List.append_nil, List.nil_append]); first | exact List.Perm.refl _ | exact List.perm_append_comm), (by (try simp only [List.append_nil, List.nil_append]); first | exact List.Perm.refl _ | exact List.perm_append_comm), X, [], o3, rfl, s1, s2, s3⟩
  · have z := g4.1 rfl
    subst z
    exact ⟨o2, o1, _, g3.2.2 h huv hu, (by (try simp only [List.append_nil, List.nil_append]); first | exact List.Perm.refl _ | exact List.perm_append_comm), (by (try simp only [List.append_nil, List.nil_append]); first | exact List.Perm.refl _ | exact List.perm_append_comm), o1, [], X, rfl, s1, s2, s3⟩
  · have z := g2.1 rfl
    subst z
    exact ⟨o3, o2, _, g4.2.2 h huv hu, (by (try simp only [List.append_nil, List.nil_append]); first | exact List.Perm.refl _ | exact List.perm_append_comm), (by (try simp only [List.append_nil, List.nil_append]); first | exact List.Perm.refl _ | exact List.perm_append_comm), X, o2, [], rfl, s1, s2, s3⟩
  · have z := g3.1 rfl
    subst z
    exact ⟨o3, o1, _, g4.2.2 h huv hu, (by (try simp only [List.append_nil, List.nil_append]); first | exact List.Perm.refl _ | exact List.perm_append_comm), (by (try simp only [List.append_nil, List.nil_append]); first | exact List.Perm.refl _ | exact List.perm_append_comm), o1, X, [], rfl, s1, s2, s3⟩
theorem OTH_n {cy : Nat → ClassId} {hPo : Nat} {σ : Nat → Nat → Int32} {e n v u hRa h : Nat} {rk : Nat → Option Nat} {O X : va_W} (h1 : 1 ≤ u) (h3 : u ≤ 3) (v1 : 1 ≤ v) (v3 : v ≤ 3) (hv : rk v = some hRa) (hu : rk u = none) (hX : pack cy hPo σ e n v hRa X) (hO : OTH cy hPo σ e n v rk O) : ∃ V, V.Perm (X ++ O) ∧ OTH cy hPo σ e n u (va_up rk u (some h)) V := by
  have huv : u ≠ v := fun q => by rw [q, hv] at hu; cases hu
  have hup : ∀ j, j ≠ u → va_up rk u (some h) j = rk j := fun j hj => va_up_ne rk _ hj
  obtain ⟨o1, o2, o3, rfl, g2, g3, g4⟩ := hO
  have s1 := oth_sw (rk' := va_up rk u (some h)) huv hv hup hX g2
  have s2 := oth_sw (rk' := va_up rk u (some h)) huv hv hup hX g3
  have s3 := oth_sw (rk' := va_up rk u (some h)) huv hv hup hX g4
  have cu : u = 1 ∨ u = 2 ∨ u = 3 := by omega
  have cv : v = 1 ∨ v = 2 ∨ v = 3 := by omega
  rcases cu with e1 | e1 | e1 <;> rcases cv with e2 | e2 | e2 <;> subst e1 <;> subst e2 <;> first | (exact absurd rfl huv) | skip
  · have z := g3.1 rfl
    have y := g2.2.1 huv hu
    subst z y
    exact ⟨_, (by (try simp only [List.append_nil, List.nil_append]); first | exact List.Perm.refl _ | exact List.perm_append_comm), [], X, o3, rfl, s1, s2, s3⟩
  · have z := g4.1 rfl
    have y := g2.2.1 huv hu
    subst z y
    exact ⟨_, (by (try simp only [List.append_nil, List.nil_append]); first | exact List.Perm.refl _ | exact List.perm_append_comm), [], o2, X, rfl, s1, s2, s3⟩
  · have z := g2.1 rfl
    have y := g3.2.1 huv hu
    subst z y
    exact ⟨_, (by (try simp only [List.append_nil, List.nil_append]); first | exact List.Perm.refl _ | exact List.perm_append_comm), X, [], o3, rfl, s1, s2, s3⟩
  · have z := g4.1 rfl
    have y := g3.2.1 huv hu
    subst z y
    exact ⟨_, (by (try simp only [List.append_nil, List.nil_append]); first | exact List.Perm.refl _ | exact List.perm_append_comm), o1, [], X, rfl, s1, s2, s3⟩
  · have z := g2.1 rfl
    have y := g4.2.1 huv hu
    subst z y
    exact ⟨_, (by (try simp only [List.append_nil, List.nil_append]); first | exact List.Perm.refl _ | exact List.perm_append_comm), X, o2, [], rfl, s1, s2, s3⟩
  · have z := g3.1 rfl
    have y := g4.2.1 huv hu
    subst z y
    exact ⟨_, (by (try simp only [List.append_nil, List.nil_append]); first | exact List.Perm.refl _ | exact List.perm_append_comm), o1, X, [], rfl, s1, s2, s3⟩
set_option maxHeartbeats 4000000 in
set_option maxRecDepth 100000 in
theorem c_X5_size (l : Launch) (D : va_G) {cy : Nat → ClassId} {hSP : Nat} {σ : Nat → Nat → Int32} {v e k : Nat} {C : va_W} (p0 : Int32) (sz : Nat) (hk0 : k < 1000000) (hC : WCn cy hSP σ v e k C) : ∃ mc ms : Nat, mc ≤ 20 ∧ ms ≤ 10529 ∧ Met l yX5_size (wA yX5_size cX5_size 3 (some .int)) { frames := 6, cells := mc, slots := ms, locals := 141 } (kPc [.ref hSP, .int p0] D cy C sz) (va_Qi (fun (r : Int32) (C' : va_W) => r = (F_size v p0).1 ∧ WCn cy hSP σ (F_size v p0).2 e (k + 1) C') (fun C' t => kB D cy (va_A C sz) C' t) (va_A C sz)) mc ms (va_A C sz) := by
  have hC0 := hC
  refine WC_elim hC (fun n hn hSP_rankings hSt hPo hRa hRa_misfits hRa_nodals hRa_order hRa_places hRa_counted hRa_begins hPl hBu hBu_isHeld hBu_axes hBu_firstSolutions hPl_lesser hPl_greater hPl_axisOf hPl_axisXs hPl_axisYs hPl_axisZs hPl_axisSquares hPl_poleSigns hPo_xs hPo_ys hPo_zs hPo_countUpTo hSt_there hSt_xs hSt_ys hSt_zs hSt_signs hSt_weights SP_rankings Ra_misfits Ra_nodals Ra_order Ra_places Ra_keptCount Ra_least Ra_version Ra_counted Ra_begins Bu_count Bu_spreadUpper Bu_spreadLower Bu_centreSolution Bu_version Bu_isHeld Bu_axes Bu_firstSolutions Bu_farUpper Bu_farLower Pl_lesser Pl_greater Pl_axisOf Pl_axisXs Pl_axisYs Pl_axisZs Pl_axisSquares Pl_axisCount Pl_poleSigns Po_xs Po_ys Po_zs Po_countUpTo Po_count O hCe h1 h3 he hw hT hCU hAB hax hr hbu hrk hO => ?_)
  subst hCe
  unfold F_size
  by_cases c : isV p0
  · obtain ⟨ep, u1, u3⟩ := isV_n c
    generalize hu : p0.toNatClampNeg = u at *
    rw [cif_pos c, ep]
    have hX : pack cy hPo σ e n v hRa (List.flatten [wRa cy hRa hRa_misfits hRa_nodals hRa_order hRa_places hRa_counted hRa_begins hPl hBu (2 * nPr v) (nPr v) Ra_misfits Ra_nodals Ra_order Ra_places Ra_keptCount Ra_least Ra_version Ra_counted Ra_begins, wBu cy hBu hBu_isHeld hBu_axes hBu_firstSolutions hPl (nAx v) Bu_count Bu_spreadUpper Bu_spreadLower Bu_centreSolution Bu_version Bu_isHeld Bu_axes Bu_firstSolutions Bu_farUpper Bu_farLower, wPl cy hPl hPl_lesser hPl_greater hPl_axisOf hPl_axisXs hPl_axisYs hPl_axisZs hPl_axisSquares hPl_poleSigns hPo (nPr v) (nPol v) (nI (nPol v)) (nI (nPr v)) Pl_lesser Pl_greater Pl_axisOf Pl_axisXs Pl_axisYs Pl_axisZs Pl_axisSquares Pl_axisCount Pl_poleSigns]) := ⟨_, _, _, _, _, _, _, _, _, _, _, _, _, _, _, _, _, _, _, _, _, _, _, _, _, _, _, _, _, _, _, _, _, _, _, _, _, _, _, _, _, _, _, _, _, _, _, rfl, hAB, hax, hr, hbu⟩
    have hfl : ∀ Q : va_W, List.flatten ([wRa cy hRa hRa_misfits hRa_nodals hRa_order hRa_places hRa_counted hRa_begins hPl hBu (2 * nPr v) (nPr v) Ra_misfits Ra_nodals Ra_order Ra_places Ra_keptCount Ra_least Ra_version Ra_counted Ra_begins, wBu cy hBu hBu_isHeld hBu_axes hBu_firstSolutions hPl (nAx v) Bu_count Bu_spreadUpper Bu_spreadLower Bu_centreSolution Bu_version Bu_isHeld Bu_axes Bu_firstSolutions Bu_farUpper Bu_farLower, wPl cy hPl hPl_lesser hPl_greater hPl_axisOf hPl_axisXs hPl_axisYs hPl_axisZs hPl_axisSquares hPl_poleSigns hPo (nPr v) (nPol v) (nI (nPol v)) (nI (nPr v)) Pl_lesser Pl_greater Pl_axisOf Pl_axisXs Pl_axisYs Pl_axisZs Pl_axisSquares Pl_axisCount Pl_poleSigns, wPo cy hPo hPo_xs hPo_ys hPo_zs hPo_countUpTo Po_xs Po_ys Po_zs Po_countUpTo Po_count, wSt cy hSt hSt_there hSt_xs hSt_ys hSt_zs hSt_signs hSt_weights (σ 0) (σ 1) (σ 2) (σ 3) (σ 4) (σ 5), O] ++ [Q]) = List.flatten [wRa cy hRa hRa_misfits hRa_nodals hRa_order hRa_places hRa_counted hRa_begins hPl hBu (2 * nPr v) (nPr v) Ra_misfits Ra_nodals Ra_order Ra_places Ra_keptCount Ra_least Ra_version Ra_counted Ra_begins, wBu cy hBu hBu_isHeld hBu_axes hBu_firstSolutions hPl (nAx v) Bu_count Bu_spreadUpper Bu_spreadLower Bu_centreSolution Bu_version Bu_isHeld Bu_axes Bu_firstSolutions Bu_farUpper Bu_farLower, wPl cy hPl hPl_lesser hPl_greater hPl_axisOf hPl_axisXs hPl_axisYs hPl_axisZs hPl_axisSquares hPl_poleSigns hPo (nPr v) (nPol v) (nI (nPol v)) (nI (nPr v)) Pl_lesser Pl_greater Pl_axisOf Pl_axisXs Pl_axisYs Pl_axisZs Pl_axisSquares Pl_axisCount Pl_poleSigns] ++ (wPo cy hPo hPo_xs hPo_ys hPo_zs hPo_countUpTo Po_xs Po_ys Po_zs Po_countUpTo Po_count ++ (wSt cy hSt hSt_there hSt_xs hSt_ys hSt_zs hSt_signs hSt_weights (σ 0) (σ 1) (σ 2) (σ 3) (σ 4) (σ 5) ++ (O ++ Q))) := fun Q => by simp only [List.flatten_append, List.flatten_cons, List.flatten_nil, List.append_nil, List.append_assoc]
    cases hru : SP_rankings u with
    | some h =>
      refine ⟨0, 0, by omega, by omega, ?_⟩
      refine cl_ip (Lr := [wRa cy hRa hRa_misfits hRa_nodals hRa_order hRa_places hRa_counted hRa_begins hPl hBu (2 * nPr v) (nPr v) Ra_misfits Ra_nodals Ra_order Ra_places Ra_keptCount Ra_least Ra_version Ra_counted Ra_begins, wBu cy hBu hBu_isHeld hBu_axes hBu_firstSolutions hPl (nAx v) Bu_count Bu_spreadUpper Bu_spreadLower Bu_centreSolution Bu_version Bu_isHeld Bu_axes Bu_firstSolutions Bu_farUpper Bu_farLower, wPl cy hPl hPl_lesser hPl_greater hPl_axisOf hPl_axisXs hPl_axisYs hPl_axisZs hPl_axisSquares hPl_poleSigns hPo (nPr v) (nPol v) (nI (nPol v)) (nI (nPr v)) Pl_lesser Pl_greater Pl_axisOf Pl_axisXs Pl_axisYs Pl_axisZs Pl_axisSquares Pl_axisCount Pl_poleSigns, wPo cy hPo hPo_xs hPo_ys hPo_zs hPo_countUpTo Po_xs Po_ys Po_zs Po_countUpTo Po_count, wSt cy hSt hSt_there hSt_xs hSt_ys hSt_zs hSt_signs hSt_weights (σ 0) (σ 1) (σ 2) (σ 3) (σ 4) (σ 5), O]) (k_X5_size_s l D cy hSP hSP_rankings hSt hPo hRa SP_rankings (nI v) (nI e) (nI n) u h sz u1 u3 hru) [0] [1, 2, 3, 4, 5, 6] rfl rfl rfl rfl (by decide) ?_
      intro r w hp
      by_cases huv : u = v
      · subst huv
        have eh : h = hRa := Option.some.inj (hru.symm.trans hrk)
        subst eh
        refine ⟨_, ?_, hp, n, by omega, WC_pk (hSPr := hSP_rankings) (hSt := hSt) (q1 := hPo_xs) (q2 := hPo_ys) (q3 := hPo_zs) (q4 := hPo_countUpTo) (cn := Po_count) (t1 := hSt_there) (t2 := hSt_xs) (t3 := hSt_ys) (t4 := hSt_zs) (t5 := hSt_signs) (t6 := hSt_weights) u1 u3 he hw hT hCU hru hX hO⟩
        rw [hfl]
        exact pm_e _ _ _ _ _
      · obtain ⟨Y, Z, V, y1, y2, y3, y4⟩ := OTH_s u1 u3 h1 h3 huv hrk hru hX hO
        refine ⟨_, ?_, hp, n, by omega, WC_pk (hSPr := hSP_rankings) (hSt := hSt) (q1 := hPo_xs) (q2 := hPo_ys) (q3 := hPo_zs) (q4 := hPo_countUpTo) (cn := Po_count) (t1 := hSt_there) (t2 := hSt_xs) (t3 := hSt_ys) (t4 := hSt_zs) (t5 := hSt_signs) (t6 := hSt_weights) u1 u3 he hw hT hCU hru y1 y4⟩
        rw [hfl]
        exact pm_s y2 y3
    | none =>
      have hb := nPr_b u1 u3
      have hal : nAx u ≤ nPr u := axL_len u (nPr u)
      have hq := nPol_le u
      refine ⟨20, (1102 + 3 * nAx u + nPr u + 7 * nPr u + nPol u + 3 * (2 * nPr u)), by omega, by omega, ?_⟩
      refine cl_ip (Lr := [wRa cy hRa hRa_misfits hRa_nodals hRa_order hRa_places hRa_counted hRa_begins hPl hBu (2 * nPr v) (nPr v) Ra_misfits Ra_nodals Ra_order Ra_places Ra_keptCount Ra_least Ra_version Ra_counted Ra_begins, wBu cy hBu hBu_isHeld hBu_axes hBu_firstSolutions hPl (nAx v) Bu_count Bu_spreadUpper Bu_spreadLower Bu_centreSolution Bu_version Bu_isHeld Bu_axes Bu_firstSolutions Bu_farUpper Bu_farLower, wPl cy hPl hPl_lesser hPl_greater hPl_axisOf hPl_axisXs hPl_axisYs hPl_axisZs hPl_axisSquares hPl_poleSigns hPo (nPr v) (nPol v) (nI (nPol v)) (nI (nPr v)) Pl_lesser Pl_greater Pl_axisOf Pl_axisXs Pl_axisYs Pl_axisZs Pl_axisSquares Pl_axisCount Pl_poleSigns, wSt cy hSt hSt_there hSt_xs hSt_ys hSt_zs hSt_signs hSt_weights (σ 0) (σ 1) (σ 2) (σ 3) (σ 4) (σ 5), O]) (k_X5_size_n l D cy hSP hSP_rankings hSt hPo hRa SP_rankings (nI v) (nI e) (nI n) hPo_xs hPo_ys hPo_zs hPo_countUpTo Po_xs Po_ys Po_zs Po_countUpTo Po_count u sz σ e n u1 u3 (by omega) hru hT hCU) [0, 4] [1, 2, 3, 5, 6] rfl rfl rfl rfl (by decide) ?_
      intro r w hp
      obtain ⟨V, y3, y4⟩ := OTH_n (h := w.1) u1 u3 h1 h3 hrk hru hX hO
      refine ⟨_, ?_, hp.1, n, by omega, WC_pk (hSPr := hSP_rankings) (hSt := hSt) (q1 := hPo_xs) (q2 := hPo_ys) (q3 := hPo_zs) (q4 := hPo_countUpTo) (cn := Po_count) (t1 := hSt_there) (t2 := hSt_xs) (t3 := hSt_ys) (t4 := hSt_zs) (t5 := hSt_signs) (t6 := hSt_weights) u1 u3 he hw hT hCU (va_up_self _ _ _) hp.2 y4⟩
      have hfn : ∀ Q P Y : va_W, List.flatten ([wRa cy hRa hRa_misfits hRa_nodals hRa_order hRa_places hRa_counted hRa_begins hPl hBu (2 * nPr v) (nPr v) Ra_misfits Ra_nodals Ra_order Ra_places Ra_keptCount Ra_least Ra_version Ra_counted Ra_begins, wBu cy hBu hBu_isHeld hBu_axes hBu_firstSolutions hPl (nAx v) Bu_count Bu_spreadUpper Bu_spreadLower Bu_centreSolution Bu_version Bu_isHeld Bu_axes Bu_firstSolutions Bu_farUpper Bu_farLower, wPl cy hPl hPl_lesser hPl_greater hPl_axisOf hPl_axisXs hPl_axisYs hPl_axisZs hPl_axisSquares hPl_poleSigns hPo (nPr v) (nPol v) (nI (nPol v)) (nI (nPr v)) Pl_lesser Pl_greater Pl_axisOf Pl_axisXs Pl_axisYs Pl_axisZs Pl_axisSquares Pl_axisCount Pl_poleSigns, wSt cy hSt hSt_there hSt_xs hSt_ys hSt_zs hSt_signs hSt_weights (σ 0) (σ 1) (σ 2) (σ 3) (σ 4) (σ 5), O] ++ [Q, P, Y]) = List.flatten [wRa cy hRa hRa_misfits hRa_nodals hRa_order hRa_places hRa_counted hRa_begins hPl hBu (2 * nPr v) (nPr v) Ra_misfits Ra_nodals Ra_order Ra_places Ra_keptCount Ra_least Ra_version Ra_counted Ra_begins, wBu cy hBu hBu_isHeld hBu_axes hBu_firstSolutions hPl (nAx v) Bu_count Bu_spreadUpper Bu_spreadLower Bu_centreSolution Bu_version Bu_isHeld Bu_axes Bu_firstSolutions Bu_farUpper Bu_farLower, wPl cy hPl hPl_lesser hPl_greater hPl_axisOf hPl_axisXs hPl_axisYs hPl_axisZs hPl_axisSquares hPl_poleSigns hPo (nPr v) (nPol v) (nI (nPol v)) (nI (nPr v)) Pl_lesser Pl_greater Pl_axisOf Pl_axisXs Pl_axisYs Pl_axisZs Pl_axisSquares Pl_axisCount Pl_poleSigns] ++ (wSt cy hSt hSt_there hSt_xs hSt_ys hSt_zs hSt_signs hSt_weights (σ 0) (σ 1) (σ 2) (σ 3) (σ 4) (σ 5) ++ (O ++ (Q ++ (P ++ Y)))) := fun Q P Y => by simp only [List.flatten_append, List.flatten_cons, List.flatten_nil, List.append_nil, List.append_assoc]
      rw [hfn]
      exact pm_n y3
  · rw [cif_neg c]
    refine ⟨0, 0, by omega, by omega, ?_⟩
    exact cl_p (G := fun (r : Int32) (C' : va_W) => r = -2 ∧ WCn cy hSP σ v e (k + 1) C') (k_X5_size_o l D cy hSP hSP_rankings hSt hPo hRa SP_rankings (nI v) (nI e) (nI n) sz p0 c) [0] rfl rfl (fun r q => ⟨q, WCn_up hC0⟩)
