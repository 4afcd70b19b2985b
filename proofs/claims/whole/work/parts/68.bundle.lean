/-! LEVEL 2: the class's bundle -/
theorem nd_sub : ∀ {l L : List T3}, l.Nodup → (∀ x ∈ l, x ∈ L) → l.length ≤ L.length
  | [], _, _, _ => Nat.zero_le _
  | x :: l, L, hn, hs => by
    obtain ⟨h1, h2⟩ := List.nodup_cons.mp hn
    have hx : x ∈ L := hs x (by simp)
    have ih := nd_sub (L := L.erase x) h2 (fun y hy => (List.mem_erase_of_ne (fun e => h1 (by rw [← e]; exact hy))).mpr (hs y (by simp [hy])))
    rw [List.length_erase_of_mem hx] at ih
    have : 0 < L.length := List.length_pos_of_mem hx
    simp
    omega
section BU
variable {v e : Nat} {σ : Nat → Nat → Int32} {O AX X Y Z S : Nat → Int32}
theorem tK_ax (h1 : 1 ≤ v) (h3 : v ≤ 3) (ha : axT v AX X Y Z S) (hw : wfS σ) {k : Nat} (hk : k < nKp v σ e) : ∃ i : Nat, AX (ordK v σ e k / 2) = nI i ∧ (axL v (nPr v))[i]? = some (tK v σ e k) := by
  obtain ⟨o1, _, _⟩ := ordK_spec (v := v) (e := e) hw hk
  obtain ⟨i, e1, _, e2, _⟩ := ha.at h1 h3 (k := ordK v σ e k / 2) (by omega)
  exact ⟨i, e1, e2⟩
theorem uL_sub (h1 : 1 ≤ v) (h3 : v ≤ 3) (ha : axT v AX X Y Z S) (hw : wfS σ) {n : Nat} (hn : n ≤ nKp v σ e) : (uL v σ e n).length ≤ nAx v := by
  refine nd_sub (uL_nd n) (fun t ht => ?_)
  obtain ⟨k, g1, g2⟩ := uL_in ht
  obtain ⟨i, _, e2⟩ := tK_ax (e := e) h1 h3 ha hw (k := k) (by omega)
  rw [g2]
  exact List.mem_of_getElem? e2
theorem uF_pre {n i : Nat} {s : Nat} (h : (uF v σ e n)[i]? = some s) : ∀ m, (uF v σ e (n + m))[i]? = some s
  | 0 => h
  | m + 1 => by
    have ih := uF_pre h m
    rw [← Nat.add_assoc, uF]
    split
    · exact ih
    · rw [List.getElem?_append_left (List.getElem?_eq_some_iff.mp ih).1]; exact ih
/-- what the bundle's rows hold behind k kept -/
def tabB (v : Nat) (σ : Nat → Nat → Int32) (e k : Nat) (c : Int32) (H A F : Nat → Int32) : Prop := c = nI (uL v σ e k).length ∧ (∀ (i : Nat) (t : T3), (axL v (nPr v))[i]? = some t → (H i = 0 ↔ t ∉ uL v σ e k)) ∧ (∀ (j : Nat) (t : T3), (uL v σ e k)[j]? = some t → ∃ i : Nat, A j = nI i ∧ (axL v (nPr v))[i]? = some t) ∧ ∀ (j s : Nat), (uF v σ e k)[j]? = some s → F j = nI s
theorem ga_L31 {K : Int32 → Int32 → (Nat → Int32) → (Nat → Int32) → (Nat → Int32) → Prop} (h1 : 1 ≤ v) (h3 : v ≤ 3) (hw : wfS σ) (ha : axT v AX X Y Z S) (hO : ∀ k, k < nKp v σ e → O k = nI (ordK v σ e k))
    (hK : ∀ w c H A F, tabB v σ e (nKp v σ e) c H A F → K w c H A F) :
    ∀ (r k : Nat) (c : Int32) (H A F : Nat → Int32), k + r = nKp v σ e → tabB v σ e k c H A F → wp_X0_gather_L31 (2 * nPr v) (nAx v) (nPr v) O (nI (nKp v σ e)) AX K (r + 1) (nI k) c H A F := by
  have hb := nPr_b h1 h3
  have hkl : nKp v σ e ≤ 2 * nPr v := ct_le _ _
  have hal : nAx v ≤ nPr v := axL_len v (nPr v)
  intro r
  induction r with
  | zero =>
    intro k c H A F hk hB
    unfold wp_X0_gather_L31
    have e1 : k = nKp v σ e := by omega
    subst e1
    exact ⟨fun _ => hK _ _ _ _ _ hB, fun h => absurd (nI_le (Nat.le_refl _) (by omega)) h⟩
  | succ r ih =>
    intro k c H A F hk hB
    have hlt : k < nKp v σ e := by omega
    obtain ⟨o1, _, _⟩ := ordK_spec (v := v) (e := e) hw hlt
    obtain ⟨i, a1, a2⟩ := tK_ax (e := e) h1 h3 ha hw hlt
    have hil := (List.getElem?_eq_some_iff.mp a2).1
    have hil2 : i < nAx v := hil
    obtain ⟨b1, b2, b3, b4⟩ := hB
    have hle := uL_sub (e := e) h1 h3 ha hw (n := k) (by omega)
    have on : Int32.ofNat (nAx v) = nI (nAx v) := rfl
    unfold wp_X0_gather_L31
    rw [nI_clamp (n := k) (by omega), hO k hlt, nI_1, on, b1]
    refine ⟨fun h => absurd h (nI_ge (by omega) (by omega)), fun _ => ⟨vp_in_nI (by omega) (by omega), fun x1 e1 => ?_⟩⟩
    rw [e1, sol_half (by omega), nI_clamp (n := ordK v σ e k / 2) (by omega), a1]
    refine ⟨vp_in_nI (by omega) (by omega), fun x2 e2 => ?_⟩
    rw [e2, nI_clamp (n := i) (by omega), nI_clamp (n := (uL v σ e k).length) (by omega)]
    have iv : vp_in (nI i) (nAx v) := vp_in_nI hil2 (by omega)
    refine ⟨iv, fun c0 => ?_, fun c0 => ?_⟩
    · have hm : tK v σ e k ∉ uL v σ e k := (b2 i _ a2).mp c0
      have u1 : uL v σ e (k + 1) = uL v σ e k ++ [tK v σ e k] := by rw [uL, if_neg hm]
      have f1 : uF v σ e (k + 1) = uF v σ e k ++ [ordK v σ e k] := by rw [uF, if_neg hm]
      have hle2 := uL_sub (e := e) h1 h3 ha hw (n := k + 1) (by omega)
      rw [u1, List.length_append] at hle2
      have hc : (uL v σ e k).length < nAx v := by simp at hle2; omega
      have cv : vp_in (nI (uL v σ e k).length) (nAx v) := vp_in_nI hc (by omega)
      refine ⟨fun h => absurd h (nI_ge hc (by omega)), fun _ => ⟨iv, cv, cv, fun x3 e3 => ?_⟩⟩
      rw [e3, nI_1]
      refine ih (k + 1) _ _ _ _ (by omega) ⟨by rw [u1, List.length_append]; rfl, fun i' t' ht' => ?_, fun j t' ht' => ?_, fun j s hs => ?_⟩
      · by_cases q : i' = i
        · subst q
          rw [pk_us]
          have et : t' = tK v σ e k := Option.some.inj (ht'.symm.trans a2)
          rw [et]
          exact ⟨fun h => absurd h (by decide), fun h => absurd (uL_mem (by omega)) h⟩
        · rw [pk_un q, b2 i' t' ht', u1]
          have hne : t' ≠ tK v σ e k := fun eq => q (nd_at (axL_nd v (nPr v)) (by rw [eq] at ht'; exact ht') a2)
          simp [hne]
      · by_cases q : j = (uL v σ e k).length
        · subst q
          rw [u1, List.getElem?_append_right (Nat.le_refl _)] at ht'
          simp at ht'
          rw [← ht', pk_us]
          exact ⟨i, rfl, a2⟩
        · have hj : j < (uL v σ e k).length := by
            have := (List.getElem?_eq_some_iff.mp ht').1
            rw [u1, List.length_append] at this
            simp at this
            omega
          rw [u1, List.getElem?_append_left hj] at ht'
          rw [pk_un q]
          exact b3 j t' ht'
      · have el := uF_len (v := v) (σ := σ) (e := e) k
        by_cases q : j = (uL v σ e k).length
        · subst q
          rw [f1, List.getElem?_append_right (by omega)] at hs
          rw [el] at hs
          simp at hs
          rw [← hs, pk_us]
        · have hj : j < (uF v σ e k).length := by
            have := (List.getElem?_eq_some_iff.mp hs).1
            rw [f1, List.length_append] at this
            simp at this
            omega
          rw [f1, List.getElem?_append_left hj] at hs
          rw [pk_un q]
          exact b4 j s hs
    · have hm : tK v σ e k ∈ uL v σ e k := by
        by_cases q : tK v σ e k ∈ uL v σ e k
        · exact q
        · exact absurd ((b2 i _ a2).mpr q) c0
      have u1 : uL v σ e (k + 1) = uL v σ e k := by rw [uL, if_pos hm]
      have f1 : uF v σ e (k + 1) = uF v σ e k := by rw [uF, if_pos hm]
      refine ih (k + 1) _ _ _ _ (by omega) ?_
      unfold tabB
      rw [u1, f1]
      exact ⟨rfl, b2, b3, b4⟩
theorem ga_L7 {n : Nat} {K : Int32 → (Nat → Int32) → Prop} (hn : n ≤ 100000) (hK : ∀ w H, (∀ j, j < n → H j = 0) → K w H) : ∀ (r i : Nat) (H : Nat → Int32), i + r = n → (∀ j, j < i → H j = 0) → wp_X0_gather_L7 n K (r + 1) (nI i) H := by
  have on : Int32.ofNat n = nI n := rfl
  intro r
  induction r with
  | zero =>
    intro i H hi hH
    unfold wp_X0_gather_L7
    have e1 : i = n := by omega
    subst e1
    exact ⟨fun _ => hK _ _ hH, fun h => absurd (nI_le (Nat.le_refl _) (by omega)) h⟩
  | succ r ih =>
    intro i H hi hH
    unfold wp_X0_gather_L7
    rw [on, nI_clamp (n := i) (by omega), nI_1]
    refine ⟨fun h => absurd h (nI_ge (by omega) (by omega)), fun _ => ⟨vp_in_nI (by omega) (by omega), ih (i + 1) _ (by omega) (fun j hj => ?_)⟩⟩
    by_cases q : j = i
    · subst q; exact pk_us
    · rw [pk_un q]; exact hH j (by omega)
theorem s_X0_gather {nn nq : Nat} {c : Int32} {H A F : Nat → Int32} {Q : Int32 → (Nat → Int32) → (Nat → Int32) → (Nat → Int32) → Prop} (h1 : 1 ≤ v) (h3 : v ≤ 3) (hw : wfS σ) (ha : axT v AX X Y Z S) (hO : ∀ k, k < nKp v σ e → O k = nI (ordK v σ e k)) (h : ∀ c H A F, tabB v σ e (nKp v σ e) c H A F → Q c H A F) : wp_X0_gather (2 * nPr v) nn (nAx v) (nPr v) nq O (nI (nKp v σ e)) c H A F AX Q := by
  have hb := nPr_b h1 h3
  have hal : nAx v ≤ nPr v := axL_len v (nPr v)
  unfold wp_X0_gather
  refine ⟨nAx v + 1, ga_L7 (by omega) (fun w H' hH => ⟨nKp v σ e + 1, ga_L31 h1 h3 hw ha hO (fun w c H A F hB => h c H A F hB) (nKp v σ e) 0 0 H' A F (by omega) ⟨rfl, fun i t ht => ?_, fun j t ht => by simp [uL] at ht, fun j s hs => by simp [uF] at hs⟩⟩) (nAx v) 0 H (by omega) (fun j hj => absurd hj (by omega))⟩
  have hil : i < nAx v := (List.getElem?_eq_some_iff.mp ht).1
  exact ⟨fun _ => by simp [uL], fun _ => hH i hil⟩
theorem eqI2 {a b : Int} (ha : -2000000000 ≤ a ∧ a ≤ 2000000000) (hb : -2000000000 ≤ b ∧ b ≤ 2000000000) : Int32.ofInt a = Int32.ofInt b ↔ a = b := by
  have t2 : ∀ {z : Int}, -2000000000 ≤ z ∧ z ≤ 2000000000 → (Int32.ofInt z).toInt = z := fun h => Int32.toInt_ofInt_of_le (by omega) (by omega)
  rw [← Int32.toInt_inj, t2 ha, t2 hb]
theorem ff_L12 {i : Nat} {t : T3} {c cc : Int32} {H A F : Nat → Int32} {Q : Int32 → Int32 → Prop} (h1 : 1 ≤ v) (h3 : v ≤ 3) (hw : wfS σ) (hL : hold4 (axL v (nPr v)) cc X Y Z S) (ha : axT v AX X Y Z S) (hB : tabB v σ e (nKp v σ e) c H A F) (hi : (axL v (nPr v))[i]? = some t) (ht : b18 t ∧ nz3 t)
    (h : Q (Int32.ofInt (fF v σ e t).1) (Int32.ofInt (fF v σ e t).2)) :
    ∀ (r j : Nat) (f : Int × Int), j + r = (uA v σ e).length → okf f → ((uA v σ e).drop j).foldl (fstp t) f = fF v σ e t → wp_X0_findFarthest_L12 (nI i) (nAx v) (nPr v) (nPol v) (nI (uA v σ e).length) A X Y Z S (fun _ a b => Q a b) (fun _ a b => Q a b) (r + 1) (nI j) (Int32.ofInt f.1) (Int32.ofInt f.2) := by
  have hb := nPr_b h1 h3
  have hal : nAx v ≤ nPr v := axL_len v (nPr v)
  have hle : (uA v σ e).length ≤ nAx v := uL_sub (e := e) h1 h3 ha hw (Nat.le_refl _)
  intro r
  induction r with
  | zero =>
    intro j f hj hf hd
    unfold wp_X0_findFarthest_L12
    rw [List.drop_of_length_le (by omega)] at hd
    have ef : f = fF v σ e t := hd
    rw [ef]
    exact ⟨fun _ => h, fun c => absurd (nI_le (by omega) (by omega)) c⟩
  | succ r ih =>
    intro j f hj hf hd
    have hjl : j < (uA v σ e).length := by omega
    have hu := List.getElem?_eq_getElem hjl
    obtain ⟨i2, a1, a2⟩ := hB.2.2.1 j _ hu
    obtain ⟨bu, nu⟩ := uL_ok (v := v) (e := e) hw (Nat.le_refl _) _ (List.mem_of_getElem? hu)
    obtain ⟨d1, d2⟩ := dnI_b ht.1 bu ht.2 nu
    obtain ⟨p1, p2⟩ := upI_b t (uA v σ e)[j]
    rw [List.drop_eq_getElem_cons hjl, List.foldl_cons] at hd
    have hf2 := okf_step hf ht.1 bu ht.2 nu
    obtain ⟨g1, g2, g3, g4, g5⟩ := id hf
    have jv : vp_in (nI j) (nAx v) := vp_in_nI (by omega) (by omega)
    have one : upI t (uA v σ e)[j] = dnI t (uA v σ e)[j] → fstp t f (uA v σ e)[j] = fF v σ e t := fun q => by
      obtain ⟨q1, q2⟩ := fstp_one hf d1 q
      rw [far_stop q1 q2] at hd
      exact hd
    unfold wp_X0_findFarthest_L12
    rw [nI_clamp (n := j) (by omega), a1, nI_1]
    refine ⟨fun c => absurd c (nI_ge (by omega) (by omega)), fun _ => ⟨jv, (s_X1_apart h1 h3 hL hi a2).1 ⟨jv, (s_X1_apart h1 h3 hL hi a2).2 ?_⟩⟩⟩
    rw [eqI2 (by omega) (by omega)]
    refine s_X5_isGreater (by omega) (by omega) (by omega) (by omega) (fun c => ⟨fun h => absurd h (by decide), fun _ => ?_⟩) (fun c => ⟨fun _ => ?_, fun h => absurd rfl h⟩)
    · have ef : fstp t f (uA v σ e)[j] = (upI t (uA v σ e)[j], dnI t (uA v σ e)[j]) := by unfold fstp; rw [if_pos c]
      rw [ef] at hd hf2 one
      refine ⟨fun q => ?_, fun q => ih (j + 1) (upI t (uA v σ e)[j], dnI t (uA v σ e)[j]) (by omega) hf2 hd⟩
      have eo := one q
      rw [← eo] at h
      exact h
    · have ef : fstp t f (uA v σ e)[j] = f := by unfold fstp; rw [if_neg c]
      rw [ef] at hd one
      refine ⟨fun q => ?_, fun q => ih (j + 1) f (by omega) hf hd⟩
      have eo := one q
      rw [← eo] at h
      exact h
/-- the centre, as one finds it going through the unlike axes -/
noncomputable def uFA (v : Nat) (σ : Nat → Nat → Int32) (e : Nat) : List Nat := uF v σ e (nKp v σ e)
noncomputable def fU (v : Nat) (σ : Nat → Nat → Int32) (e i : Nat) : Int × Int := fF v σ e ((uA v σ e).getD i (0, 0, 0))
noncomputable def cc (v : Nat) (σ : Nat → Nat → Int32) (e : Nat) : Nat → (Int × Int) × Nat
  | 0 => (fU v σ e 0, (uFA v σ e).getD 0 0)
  | i + 1 => if (fU v σ e (i + 1)).1 * (cc v σ e i).1.2 < (cc v σ e i).1.1 * (fU v σ e (i + 1)).2 then (fU v σ e (i + 1), (uFA v σ e).getD (i + 1) 0) else cc v σ e i
theorem uA_at {n i : Nat} {t : T3} (hn : n ≤ nKp v σ e) (h : (uL v σ e n)[i]? = some t) : (uA v σ e).getD i (0, 0, 0) = t := by
  have := uL_pre h (nKp v σ e - n)
  rw [show n + (nKp v σ e - n) = nKp v σ e by omega] at this
  unfold uA
  rw [List.getD_eq_getElem?_getD, this]; rfl
theorem uFA_at {n i s : Nat} (hn : n ≤ nKp v σ e) (h : (uF v σ e n)[i]? = some s) : (uFA v σ e).getD i 0 = s := by
  have := uF_pre h (nKp v σ e - n)
  rw [show n + (nKp v σ e - n) = nKp v σ e by omega] at this
  unfold uFA
  rw [List.getD_eq_getElem?_getD, this]; rfl
theorem cc_mcen (hw : wfS σ) : ∀ n, n < nKp v σ e → cc v σ e ((uL v σ e (n + 1)).length - 1) = ((mcen v σ e n).1, ordK v σ e (mcen v σ e n).2)
  | 0, h => by
    have e1 : uL v σ e 1 = [tK v σ e 0] := by rw [uL, uL, if_neg (by simp)]; rfl
    have e2 : uF v σ e 1 = [ordK v σ e 0] := by rw [uF, uL, uF, if_neg (by simp)]; rfl
    rw [e1]
    show cc v σ e 0 = _
    rw [cc, mcen]
    unfold fU
    rw [uA_at (n := 1) (t := tK v σ e 0) (by omega) (by rw [e1]; rfl), uFA_at (n := 1) (s := ordK v σ e 0) (by omega) (by rw [e2]; rfl)]
  | n + 1, h => by
    have ih := cc_mcen hw n (by omega)
    by_cases hm : tK v σ e (n + 1) ∈ uL v σ e (n + 1)
    · have e1 : uL v σ e (n + 1 + 1) = uL v σ e (n + 1) := by rw [uL, if_pos hm]
      rw [e1, mcen_skip hw h hm]
      exact ih
    · have e1 : uL v σ e (n + 1 + 1) = uL v σ e (n + 1) ++ [tK v σ e (n + 1)] := by rw [uL, if_neg hm]
      have e2 : uF v σ e (n + 1 + 1) = uF v σ e (n + 1) ++ [ordK v σ e (n + 1)] := by rw [uF, if_neg hm]
      have hpos : 0 < (uL v σ e (n + 1)).length := List.length_pos_of_mem (uL_mem (show 0 < n + 1 by omega))
      have el : (uL v σ e (n + 1 + 1)).length - 1 = ((uL v σ e (n + 1)).length - 1) + 1 := by rw [e1, List.length_append]; simp; omega
      have hf : fU v σ e ((uL v σ e (n + 1)).length - 1 + 1) = fF v σ e (tK v σ e (n + 1)) := by
        unfold fU
        rw [uA_at (n := n + 1 + 1) (t := tK v σ e (n + 1)) (by omega) (by rw [e1, List.getElem?_append_right (by omega)]; rw [show (uL v σ e (n + 1)).length - 1 + 1 - (uL v σ e (n + 1)).length = 0 by omega]; rfl)]
      have hF : (uFA v σ e).getD ((uL v σ e (n + 1)).length - 1 + 1) 0 = ordK v σ e (n + 1) := by
        have el2 := uF_len (v := v) (σ := σ) (e := e) (n + 1)
        exact uFA_at (n := n + 1 + 1) (by omega) (by rw [e2, List.getElem?_append_right (by omega)]; rw [show (uL v σ e (n + 1)).length - 1 + 1 - (uF v σ e (n + 1)).length = 0 by omega]; rfl)
      rw [el, cc, ih, hf, hF, mcen]
      by_cases q : (fF v σ e (tK v σ e (n + 1))).1 * (mcen v σ e n).1.2 < (mcen v σ e n).1.1 * (fF v σ e (tK v σ e (n + 1))).2
      · rw [if_pos q, if_pos q]
      · rw [if_neg q, if_neg q]
theorem cc_last (h1 : 1 ≤ v) (h3 : v ≤ 3) (hw : wfS σ) : (cc v σ e ((uA v σ e).length - 1)).2 = cenS v σ e := by
  have hk0 : 0 < nKp v σ e := nKp_pos h1 h3 hw
  have := cc_mcen (v := v) (e := e) hw (nKp v σ e - 1) (by omega)
  rw [show nKp v σ e - 1 + 1 = nKp v σ e by omega] at this
  unfold uA cenS
  rw [this]
theorem fU_at {i : Nat} (hi : i < (uA v σ e).length) : fU v σ e i = fF v σ e (uA v σ e)[i] := by
  unfold fU
  rw [List.getD_eq_getElem?_getD, List.getElem?_eq_getElem hi]; rfl
theorem fU_ok (hw : wfS σ) {i : Nat} (hi : i < (uA v σ e).length) : okf (fU v σ e i) := by
  rw [fU_at hi]
  exact fF_ok hw (List.getElem_mem hi)
theorem cc_ok (hw : wfS σ) : ∀ i, i < (uA v σ e).length → okf (cc v σ e i).1
  | 0, h => fU_ok hw h
  | i + 1, h => by
    rw [cc]
    split
    · exact fU_ok hw h
    · exact cc_ok hw i (by omega)
theorem rf_L22 {c cx : Int32} {H A F : Nat → Int32} {K : Int32 → Int32 → Int32 → Int32 → Int32 → Int32 → Int32 → Int32 → Prop} (h1 : 1 ≤ v) (h3 : v ≤ 3) (hw : wfS σ) (hL : hold4 (axL v (nPr v)) cx X Y Z S) (ha : axT v AX X Y Z S) (hB : tabB v σ e (nKp v σ e) c H A F)
    (hK : ∀ a b w x y, K a b w (Int32.ofInt (sprd v σ e).1) (Int32.ofInt (sprd v σ e).2) (nI (cenS v σ e)) x y) :
    ∀ (r i : Nat) (g s : Int × Int) (ce fu fl : Int32), i + r = (uA v σ e).length → (i = 0 → g = (0, 1)) → (∀ j, i = j + 1 → g = (cc v σ e j).1 ∧ ce = nI (cc v σ e j).2) → okf s → ((uA v σ e).drop i).foldl (fun cur t => sp1 cur (fF v σ e t)) s = sprd v σ e → wp_X0_refresh_L22 (nAx v) (nPr v) (nPol v) X Y Z S (nI (uA v σ e).length) A F K (r + 1) (Int32.ofInt g.1) (Int32.ofInt g.2) (nI i) (Int32.ofInt s.1) (Int32.ofInt s.2) ce fu fl := by
  have hb := nPr_b h1 h3
  have hal : nAx v ≤ nPr v := axL_len v (nPr v)
  have hle : (uA v σ e).length ≤ nAx v := uL_sub (e := e) h1 h3 ha hw (Nat.le_refl _)
  have hpos := uA_pos (v := v) (e := e) h1 h3 hw
  intro r
  induction r with
  | zero =>
    intro i g s ce fu fl hi h0 hj hs hd
    unfold wp_X0_refresh_L22
    rw [List.drop_of_length_le (by omega)] at hd
    have es : s = sprd v σ e := hd
    obtain ⟨q1, q2⟩ := hj ((uA v σ e).length - 1) (by omega)
    rw [es, q2, cc_last h1 h3 hw]
    exact ⟨fun _ => hK _ _ _ _ _, fun c => absurd (nI_le (by omega) (by omega)) c⟩
  | succ r ih =>
    intro i g s ce fu fl hi h0 hj hs hd
    have hil : i < (uA v σ e).length := by omega
    have hu := List.getElem?_eq_getElem hil
    obtain ⟨i2, a1, a2⟩ := hB.2.2.1 i _ hu
    have htok := uL_ok (v := v) (e := e) hw (Nat.le_refl _) _ (List.mem_of_getElem? hu)
    have hfok := fF_ok (v := v) (e := e) hw (List.mem_of_getElem? hu)
    have hfu := fU_at (v := v) (σ := σ) (e := e) hil
    rw [List.drop_eq_getElem_cons hil, List.foldl_cons] at hd
    have iv : vp_in (nI i) (nAx v) := vp_in_nI (by omega) (by omega)
    have hFi : F i = nI ((uFA v σ e).getD i 0) := by
      have el := uF_len (v := v) (σ := σ) (e := e) (nKp v σ e)
      have hlf : i < (uFA v σ e).length := by unfold uFA; rw [el]; exact hil
      have := hB.2.2.2 i _ (List.getElem?_eq_getElem hlf)
      rw [this, List.getD_eq_getElem?_getD, List.getElem?_eq_getElem hlf]; rfl
    obtain ⟨f1, f2, f3, f4, f5⟩ := id hfok
    obtain ⟨s1, s2, s3, s4, s5⟩ := id hs
    unfold wp_X0_refresh_L22
    rw [nI_clamp (n := i) (by omega), a1, nI_1]
    refine ⟨fun c => absurd c (nI_ge (by omega) (by omega)), fun _ => ⟨iv, ⟨(uA v σ e).length + 1, ff_L12 h1 h3 hw hL ha hB a2 htok ?_ (uA v σ e).length 0 (0, 1) (by omega) okf_0 rfl⟩⟩⟩
    -- what the centre is behind this one
    have near : ∀ s' : Int × Int, okf s' → ((uA v σ e).drop (i + 1)).foldl (fun cur t => sp1 cur (fF v σ e t)) s' = sprd v σ e →
        (nI i = 0 → vp_in (nI i) (nAx v) ∧ ∀ x4 : Int32, x4 = F i → wp_X0_refresh_L22 (nAx v) (nPr v) (nPol v) X Y Z S (nI (uA v σ e).length) A F K (r + 1) (Int32.ofInt (fF v σ e (uA v σ e)[i]).1) (Int32.ofInt (fF v σ e (uA v σ e)[i]).2) (nI (i + 1)) (Int32.ofInt s'.1) (Int32.ofInt s'.2) x4 (Int32.ofInt (fF v σ e (uA v σ e)[i]).1) (Int32.ofInt (fF v σ e (uA v σ e)[i]).2)) ∧
        (¬ nI i = 0 → wp_X5_isGreater (Int32.ofInt g.1) (Int32.ofInt g.2) (Int32.ofInt (fF v σ e (uA v σ e)[i]).1) (Int32.ofInt (fF v σ e (uA v σ e)[i]).2) (fun r5 => (r5 = 0 → wp_X0_refresh_L22 (nAx v) (nPr v) (nPol v) X Y Z S (nI (uA v σ e).length) A F K (r + 1) (Int32.ofInt g.1) (Int32.ofInt g.2) (nI (i + 1)) (Int32.ofInt s'.1) (Int32.ofInt s'.2) ce (Int32.ofInt (fF v σ e (uA v σ e)[i]).1) (Int32.ofInt (fF v σ e (uA v σ e)[i]).2)) ∧ (¬ r5 = 0 → vp_in (nI i) (nAx v) ∧ ∀ x6 : Int32, x6 = F i → wp_X0_refresh_L22 (nAx v) (nPr v) (nPol v) X Y Z S (nI (uA v σ e).length) A F K (r + 1) (Int32.ofInt (fF v σ e (uA v σ e)[i]).1) (Int32.ofInt (fF v σ e (uA v σ e)[i]).2) (nI (i + 1)) (Int32.ofInt s'.1) (Int32.ofInt s'.2) x6 (Int32.ofInt (fF v σ e (uA v σ e)[i]).1) (Int32.ofInt (fF v σ e (uA v σ e)[i]).2)))) := by
      intro s' hs' hd'
      refine ⟨fun c0 => ⟨iv, fun x4 e4 => ?_⟩, fun c0 => ?_⟩
      · have i0 : i = 0 := (nI_eq0 (by omega)).mp c0
        refine ih (i + 1) (fF v σ e (uA v σ e)[i]) s' _ _ _ (by omega) (fun h => absurd h (by omega)) (fun j ej => ?_) hs' hd'
        have ej : j = i := by omega
        subst ej
        rw [e4, hFi]
        subst i0
        rw [cc, hfu]
        exact ⟨rfl, rfl⟩
      · have i0 : i ≠ 0 := fun h => c0 ((nI_eq0 (by omega)).mpr h)
        obtain ⟨j, rfl⟩ := Nat.exists_eq_succ_of_ne_zero i0
        obtain ⟨q1, q2⟩ := hj j rfl
        have hgok := cc_ok (v := v) (e := e) hw j (by omega)
        rw [← q1] at hgok
        obtain ⟨g1, g2, g3, g4, g5⟩ := id hgok
        refine s_X5_isGreater (by omega) (by omega) (by omega) (by omega) (fun c => ⟨fun h => absurd h (by decide), fun _ => ⟨iv, fun x6 e6 => ?_⟩⟩) (fun c => ⟨fun _ => ?_, fun h => absurd rfl h⟩)
        · refine ih (j + 1 + 1) (fF v σ e (uA v σ e)[j + 1]) s' _ _ _ (by omega) (fun h => absurd h (by omega)) (fun j' ej => ?_) hs' hd'
          have ej : j' = j + 1 := by omega
          subst ej
          rw [e6, hFi, cc, if_pos (by rw [hfu, ← q1]; exact c), hfu]
          exact ⟨rfl, rfl⟩
        · refine ih (j + 1 + 1) g s' _ _ _ (by omega) (fun h => absurd h (by omega)) (fun j' ej => ?_) hs' hd'
          have ej : j' = j + 1 := by omega
          subst ej
          rw [cc, if_neg (by rw [hfu, ← q1]; exact c)]
          exact ⟨q1, q2⟩
    refine s_X5_isGreater (by omega) (by omega) (by omega) (by omega) (fun c => ⟨fun h => absurd h (by decide), fun _ => ?_⟩) (fun c => ⟨fun _ => ?_, fun h => absurd rfl h⟩)
    · unfold sp1 at hd
      rw [if_pos c] at hd
      exact near _ hfok hd
    · unfold sp1 at hd
      rw [if_neg c] at hd
      exact near _ hs hd
/-- what the bundle tells -/
def BK (v : Nat) (σ : Nat → Nat → Int32) (e : Nat) (c su sl ce : Int32) : Prop := c = nI (uA v σ e).length ∧ su = Int32.ofInt (sprd v σ e).1 ∧ sl = Int32.ofInt (sprd v σ e).2 ∧ ce = nI (cenS v σ e)
theorem s_X0_refresh {nn : Nat} {c su sl ce fu fl : Int32} {H A F : Nat → Int32} {Q : Int32 → Int32 → Int32 → Int32 → (Nat → Int32) → (Nat → Int32) → (Nat → Int32) → Int32 → Int32 → Prop} (h1 : 1 ≤ v) (h3 : v ≤ 3) (hw : wfS σ) (ha : axT v AX X Y Z S) (hO : ∀ k, k < nKp v σ e → O k = nI (ordK v σ e k)) (h : ∀ c su sl ce H A F fu fl, BK v σ e c su sl ce → Q c su sl ce H A F fu fl) : wp_X0_refresh (2 * nPr v) nn (nAx v) (nPr v) (nPol v) O (nI (nKp v σ e)) c su sl ce H A F fu fl AX X Y Z S Q := by
  unfold wp_X0_refresh
  refine s_X0_gather h1 h3 hw ha hO (fun c' H' A' F' hB => ⟨(uA v σ e).length + 1, ?_⟩)
  obtain ⟨cx, hL⟩ := ha.1
  have e1 : c' = nI (uA v σ e).length := hB.1
  rw [e1]
  exact rf_L22 h1 h3 hw hL ha hB (fun a b w x y => h _ _ _ _ _ _ _ _ _ ⟨rfl, rfl, rfl, rfl⟩) (uA v σ e).length 0 (0, 1) (0, 1) ce fu fl (by omega) (fun _ => rfl) (fun j hj => absurd hj (by omega)) okf_0 rfl
end BU
