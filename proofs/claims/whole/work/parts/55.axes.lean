/-! LEVEL 2: the axes -/
def leadI (c : Int × Int × Int) : Int := if c.1 = 0 then (if c.2.1 = 0 then c.2.2 else c.2.1) else c.1
def gI (c : Int × Int × Int) : Nat := Nat.gcd (Nat.gcd c.1.natAbs c.2.1.natAbs) c.2.2.natAbs
def dI (c : Int × Int × Int) : Int := if leadI c < 0 then -(gI c : Int) else (gI c : Int)
def cI (v k : Nat) : Int × Int × Int := ((pI (pA v k)).2.1 * (pI (pB v k)).2.2 - (pI (pA v k)).2.2 * (pI (pB v k)).2.1, (pI (pA v k)).2.2 * (pI (pB v k)).1 - (pI (pA v k)).1 * (pI (pB v k)).2.2, (pI (pA v k)).1 * (pI (pB v k)).2.1 - (pI (pA v k)).2.1 * (pI (pB v k)).1)
def aI (v k : Nat) : Int × Int × Int := ((cI v k).1.tdiv (dI (cI v k)), (cI v k).2.1.tdiv (dI (cI v k)), (cI v k).2.2.tdiv (dI (cI v k)))
def b18 (t : Int × Int × Int) : Prop := (-18 ≤ t.1 ∧ t.1 ≤ 18) ∧ (-18 ≤ t.2.1 ∧ t.2.1 ≤ 18) ∧ (-18 ≤ t.2.2 ∧ t.2.2 ≤ 18)
theorem cI_b (v k : Nat) : b18 (cI v k) := by
  have h1 := pI_b (pA v k)
  have h2 := pI_b (pB v k)
  have m1 := mul_b3 h1.2.1 h2.2.2
  have m2 := mul_b3 h1.2.2 h2.2.1
  have m3 := mul_b3 h1.2.2 h2.1
  have m4 := mul_b3 h1.1 h2.2.2
  have m5 := mul_b3 h1.1 h2.2.1
  have m6 := mul_b3 h1.2.1 h2.1
  unfold b18 cI
  dsimp only
  omega
theorem pTab_0 : ∀ t ∈ pTab, ¬ (t.1 = 0 ∧ t.2.1 = 0 ∧ t.2.2 = 0) := by decide +kernel
theorem pI_0 {k : Nat} (h : k < 145) : ¬ ((pI k).1 = 0 ∧ (pI k).2.1 = 0 ∧ (pI k).2.2 = 0) := by
  unfold pI
  have hl : k < pTab.length := by rw [pTab_len]; exact h
  rw [List.getD_eq_getElem?_getD, List.getElem?_eq_getElem hl]
  exact pTab_0 _ (List.getElem_mem hl)
theorem sq_pos {a b c : Int} (h : ¬ (a = 0 ∧ b = 0 ∧ c = 0)) : 0 < a * a + b * b + c * c := by
  have nn : ∀ u : Int, 0 ≤ u * u := fun u => by
    rcases Int.le_total 0 u with h | h
    · exact Int.mul_nonneg h h
    · exact Int.mul_nonneg_of_nonpos_of_nonpos h h
  have ps : ∀ u : Int, u ≠ 0 → 0 < u * u := fun u hu => by
    rcases Int.lt_or_gt_of_ne hu with h | h
    · exact Int.mul_pos_of_neg_of_neg h h
    · exact Int.mul_pos h h
  have ha := nn a
  have hb := nn b
  have hc := nn c
  have ea := ps a
  have eb := ps b
  have ec := ps c
  by_cases h1 : a = 0
  · by_cases h2 : b = 0
    · have h3 : c ≠ 0 := fun h3 => h ⟨h1, h2, h3⟩
      have := ec h3; omega
    · have := eb h2; omega
  · have := ea h1; omega
theorem cross_0 {p1 p2 p3 q1 q2 q3 : Int} (hp : ¬ (p1 = 0 ∧ p2 = 0 ∧ p3 = 0)) (hq : ¬ (q1 = 0 ∧ q2 = 0 ∧ q3 = 0)) (hd : p1 * q1 + p2 * q2 + p3 * q3 = 0) : ¬ (p2 * q3 - p3 * q2 = 0 ∧ p3 * q1 - p1 * q3 = 0 ∧ p1 * q2 - p2 * q1 = 0) := by
  intro ⟨h1, h2, h3⟩
  have hs := sq_pos hp
  have k1 : q1 * (p1 * p1 + p2 * p2 + p3 * p3) = 0 := by grind
  have k2 : q2 * (p1 * p1 + p2 * p2 + p3 * p3) = 0 := by grind
  have k3 : q3 * (p1 * p1 + p2 * p2 + p3 * p3) = 0 := by grind
  refine hq ⟨?_, ?_, ?_⟩
  · rcases Int.mul_eq_zero.mp k1 with h | h <;> omega
  · rcases Int.mul_eq_zero.mp k2 with h | h <;> omega
  · rcases Int.mul_eq_zero.mp k3 with h | h <;> omega
theorem cI_0 {v k : Nat} (hk : k < nPr v) : ¬ ((cI v k).1 = 0 ∧ (cI v k).2.1 = 0 ∧ (cI v k).2.2 = 0) := by
  obtain ⟨h1, h2, h3⟩ := pAB_in hk
  have hn := nPol_le v
  have hd : dtI (pA v k) (pB v k) = 0 := by simpa [dot0] using h3
  exact cross_0 (pI_0 (by omega)) (pI_0 (by omega)) hd
theorem gI_pos {c : Int × Int × Int} (h : ¬ (c.1 = 0 ∧ c.2.1 = 0 ∧ c.2.2 = 0)) : 0 < gI c := by
  unfold gI
  rcases Nat.eq_zero_or_pos (Nat.gcd (Nat.gcd c.1.natAbs c.2.1.natAbs) c.2.2.natAbs) with h0 | h0
  · exfalso
    obtain ⟨h1, h2⟩ := Nat.gcd_eq_zero_iff.mp h0
    obtain ⟨h3, h4⟩ := Nat.gcd_eq_zero_iff.mp h1
    exact h ⟨by omega, by omega, by omega⟩
  · exact h0
theorem dI_ne {c : Int × Int × Int} (h : ¬ (c.1 = 0 ∧ c.2.1 = 0 ∧ c.2.2 = 0)) : dI c ≠ 0 := by
  have := gI_pos h
  unfold dI
  split <;> omega
theorem gI_le {c : Int × Int × Int} (hc : b18 c) : gI c ≤ 18 := by
  unfold gI
  obtain ⟨h1, h2, h3⟩ := hc
  have e : ∀ {a b : Nat}, a ≤ 18 → b ≤ 18 → Nat.gcd a b ≤ 18 := fun {a b} ha hb => by
    by_cases c : a = 0
    · subst c; rw [Nat.gcd_zero_left]; exact hb
    · exact Nat.le_trans (Nat.gcd_le_left _ (by omega)) ha
  exact e (e (by omega) (by omega)) (by omega)
theorem sdiv_I {c : Int × Int × Int} (hc : b18 c) : sdiv (Int32.ofInt c.1) (Int32.ofInt c.2.1) (Int32.ofInt c.2.2) = Int32.ofInt (dI c) := by
  obtain ⟨h1, h2, h3⟩ := id hc
  unfold sdiv
  rw [lead_I (by omega) (by omega) (by omega), gcd_I (by omega) (by omega) (by omega)]
  have el : Int32.ofInt (leadI c) < 0 ↔ leadI c < 0 := by
    rw [I0]; exact ltI (by unfold leadI; split <;> (try split) <;> omega) (by omega)
  show (if Int32.ofInt (leadI c) < 0 then -nI (gI c) else nI (gI c)) = _
  unfold dI
  by_cases d : leadI c < 0
  · rw [if_pos (el.mpr d), if_pos d, nI_ofInt, Int32.ofInt_neg]
  · rw [if_neg (fun h => d (el.mp h)), if_neg d, nI_ofInt]
theorem div_I {a d : Int} (ha : -1000 ≤ a ∧ a ≤ 1000) (hd : -1000 ≤ d ∧ d ≤ 1000) : Int32.ofInt a / Int32.ofInt d = Int32.ofInt (a.tdiv d) := by
  have e1 : Int32.minValue.toInt = -2147483648 := rfl
  have e2 : Int32.maxValue.toInt = 2147483647 := rfl
  exact (Int32.ofInt_tdiv (by omega) (by omega) (by omega) (by omega)).symm
theorem dI_b {c : Int × Int × Int} (hc : b18 c) : -18 ≤ dI c ∧ dI c ≤ 18 := by
  have := gI_le hc
  unfold dI
  split <;> omega
theorem tdiv_le {a d : Int} (ha : -18 ≤ a ∧ a ≤ 18) : -18 ≤ a.tdiv d ∧ a.tdiv d ≤ 18 := by
  have h := Int.natAbs_tdiv_le_natAbs a d
  omega
theorem aI_b (v k : Nat) : b18 (aI v k) := by
  obtain ⟨h1, h2, h3⟩ := cI_b v k
  exact ⟨tdiv_le h1, tdiv_le h2, tdiv_le h3⟩
theorem dI_dvd (c : Int × Int × Int) : dI c ∣ c.1 ∧ dI c ∣ c.2.1 ∧ dI c ∣ c.2.2 := by
  have g1 : (gI c : Int) ∣ c.1 := Int.ofNat_dvd_left.mpr (Nat.dvd_trans (Nat.gcd_dvd_left _ _) (Nat.gcd_dvd_left _ _))
  have g2 : (gI c : Int) ∣ c.2.1 := Int.ofNat_dvd_left.mpr (Nat.dvd_trans (Nat.gcd_dvd_left _ _) (Nat.gcd_dvd_right _ _))
  have g3 : (gI c : Int) ∣ c.2.2 := Int.ofNat_dvd_left.mpr (Nat.gcd_dvd_right _ _)
  unfold dI
  split
  · exact ⟨Int.neg_dvd.mpr g1, Int.neg_dvd.mpr g2, Int.neg_dvd.mpr g3⟩
  · exact ⟨g1, g2, g3⟩
theorem aI_0 {v k : Nat} (hk : k < nPr v) : ¬ ((aI v k).1 = 0 ∧ (aI v k).2.1 = 0 ∧ (aI v k).2.2 = 0) := by
  intro ⟨h1, h2, h3⟩
  obtain ⟨d1, d2, d3⟩ := dI_dvd (cI v k)
  refine cI_0 hk ⟨?_, ?_, ?_⟩
  · rw [← Int.tdiv_mul_cancel d1]; show (aI v k).1 * _ = 0; rw [h1, Int.zero_mul]
  · rw [← Int.tdiv_mul_cancel d2]; show (aI v k).2.1 * _ = 0; rw [h2, Int.zero_mul]
  · rw [← Int.tdiv_mul_cancel d3]; show (aI v k).2.2 * _ = 0; rw [h3, Int.zero_mul]
theorem cross_I {v k : Nat} : pY (pA v k) * pZ (pB v k) - pZ (pA v k) * pY (pB v k) = Int32.ofInt (cI v k).1 ∧ pZ (pA v k) * pX (pB v k) - pX (pA v k) * pZ (pB v k) = Int32.ofInt (cI v k).2.1 ∧ pX (pA v k) * pY (pB v k) - pY (pA v k) * pX (pB v k) = Int32.ofInt (cI v k).2.2 := by
  simp only [pX_I, pY_I, pZ_I, ← Int32.ofInt_mul, ← Int32.ofInt_sub]
  exact ⟨rfl, rfl, rfl⟩
theorem sol_half {s : Nat} (h : s < 2 ^ 31) : nI s / 2 = nI (s / 2) := pk_div (d := 2) h (by decide) (by decide)
/-- the model's axis of a solution -/
theorem s_X6_findAxis {v s : Nat} {X Y Z A B : Nat → Int32} {x0 y0 z0 : Int32} {Q : Int32 → Int32 → Int32 → Prop} (h1 : 1 ≤ v) (h3 : v ≤ 3) (hT : tabP (nPol v) X Y Z) (hAB : ∀ k, k < nPr v → A k = nI (pA v k) ∧ B k = nI (pB v k)) (hs : s < 2 * nPr v)
    (h : Q (Int32.ofInt (aI v (s / 2)).1) (Int32.ofInt (aI v (s / 2)).2.1) (Int32.ofInt (aI v (s / 2)).2.2)) : wp_X6_findAxis (nI s) X Y Z A B x0 y0 z0 Q := by
  have hb := (nPr_b h1 h3).2
  have hk : s / 2 < nPr v := by omega
  have hn := nPol_le v
  obtain ⟨ha1, ha2, ha3⟩ := pAB_in hk
  unfold wp_X6_findAxis
  rw [sol_half (by omega), nI_clamp (n := s / 2) (by omega), (hAB _ hk).1, (hAB _ hk).2]
  have i0 : vp_in (nI (s / 2)) 1160 := vp_in_nI (by omega) (by decide)
  have i1 : vp_in (nI (pA v (s / 2))) 145 := vp_in_nI (by omega) (by decide)
  have i2 : vp_in (nI (pB v (s / 2))) 145 := vp_in_nI (by omega) (by decide)
  refine ⟨i0, fun x1 e1 => ⟨i0, fun x2 e2 => ?_⟩⟩
  subst e1
  subst e2
  obtain ⟨t1, t2, t3⟩ := hT (pA v (s / 2)) (by omega)
  obtain ⟨t4, t5, t6⟩ := hT (pB v (s / 2)) (by omega)
  rw [nI_clamp (n := pA v (s / 2)) (by omega), nI_clamp (n := pB v (s / 2)) (by omega), t1, t2, t3, t4, t5, t6]
  obtain ⟨e1, e2, e3⟩ := cross_I (v := v) (k := s / 2)
  rw [e1, e2, e3]
  have hc := cI_b v (s / 2)
  obtain ⟨b1, b2, b3⟩ := id hc
  refine ⟨i1, i2, i1, i2, fun x3 f3 => ⟨i1, i2, i1, i2, fun x4 f4 => ⟨i1, i2, i1, i2, fun x5 f5 => ?_⟩⟩⟩
  subst f3
  subst f4
  subst f5
  refine s_X6_common (okI (by omega)) (okI (by omega)) (s_X6_common (gcd32_ok (okI (by omega)) (okI (by omega))) (okI (by omega)) (s_X6_leading ?_))
  have hnz : ¬ (Int32.ofInt (cI v (s / 2)).1 = 0 ∧ Int32.ofInt (cI v (s / 2)).2.1 = 0 ∧ Int32.ofInt (cI v (s / 2)).2.2 = 0) := by
    rw [I0, eqI (by omega) (by omega), eqI (by omega) (by omega), eqI (by omega) (by omega)]
    exact cI_0 hk
  rw [by_sdiv hnz, sdiv_I hc]
  have hd := dI_b hc
  have hne : ¬ Int32.ofInt (dI (cI v (s / 2))) = 0 := by
    rw [I0, eqI (by omega) (by omega)]
    exact dI_ne (cI_0 hk)
  intro x9 e9
  subst e9
  refine ⟨hne, fun x10 e10 => ⟨hne, fun x11 e11 => ⟨hne, fun x12 e12 => ?_⟩⟩⟩
  rw [e10, e11, e12, div_I (by omega) (by omega), div_I (by omega) (by omega), div_I (by omega) (by omega)]
  exact h
/-! the class's axes: each held once -/
def axL (v : Nat) : Nat → List (Int × Int × Int)
  | 0 => []
  | n + 1 => if aI v n ∈ axL v n then axL v n else axL v n ++ [aI v n]
def nAx (v : Nat) : Nat := (axL v (nPr v)).length
theorem axL_len (v : Nat) : ∀ n, (axL v n).length ≤ n
  | 0 => Nat.le_refl _
  | n + 1 => by
    have := axL_len v n
    rw [axL]
    split
    · omega
    · rw [List.length_append]; simp; omega
theorem axL_b (v : Nat) : ∀ n, ∀ t ∈ axL v n, b18 t
  | 0, t, h => by simp [axL] at h
  | n + 1, t, h => by
    rw [axL] at h
    split at h
    · exact axL_b v n t h
    · rcases List.mem_append.mp h with h | h
      · exact axL_b v n t h
      · simp at h; subst h; exact aI_b v n
theorem axL_nd (v : Nat) : ∀ n, (axL v n).Nodup
  | 0 => by simp [axL]
  | n + 1 => by
    rw [axL]
    split
    · exact axL_nd v n
    · rename_i hc
      exact List.nodup_append.mpr ⟨axL_nd v n, by simp, by
        intro a ha b hb e
        simp at hb
        subst hb
        subst e
        exact hc ha⟩
theorem axL_pre (v : Nat) {n : Nat} {i : Nat} {t : Int × Int × Int} (h : (axL v n)[i]? = some t) : ∀ m, (axL v (n + m))[i]? = some t
  | 0 => h
  | m + 1 => by
    have ih := axL_pre v h m
    rw [← Nat.add_assoc, axL]
    split
    · exact ih
    · rw [List.getElem?_append_left (List.getElem?_eq_some_iff.mp ih).1]; exact ih
theorem nd_at {α : Type} {l : List α} (h : l.Nodup) {i j : Nat} {t : α} (hi : l[i]? = some t) (hj : l[j]? = some t) : i = j := by
  obtain ⟨li, ei⟩ := List.getElem?_eq_some_iff.mp hi
  obtain ⟨lj, ej⟩ := List.getElem?_eq_some_iff.mp hj
  rcases Nat.lt_trichotomy i j with c | c | c
  · exact absurd (ei.trans ej.symm) (List.pairwise_iff_getElem.mp h i j li lj c)
  · exact c
  · exact absurd (ej.trans ei.symm) (List.pairwise_iff_getElem.mp h j i lj li c)
def hold4 (L : List (Int × Int × Int)) (c : Int32) (X Y Z S : Nat → Int32) : Prop := c = nI L.length ∧ ∀ (i : Nat) (t : Int × Int × Int), L[i]? = some t → X i = Int32.ofInt t.1 ∧ Y i = Int32.ofInt t.2.1 ∧ Z i = Int32.ofInt t.2.2 ∧ S i = Int32.ofInt (t.1 * t.1 + t.2.1 * t.2.1 + t.2.2 * t.2.2)
theorem h_L3 {L : List (Int × Int × Int)} {t : Int × Int × Int} {np : Nat} {c : Int32} {X Y Z S : Nat → Int32} {K54 K45 : Int32 → Prop} (hL : hold4 L c X Y Z S) (hb : ∀ u ∈ L, b18 u) (ht : b18 t) (hn : L.length ≤ np) (hp : np ≤ 100000) (k54 : t ∉ L → K54 (nI L.length)) (k45 : ∀ i, L[i]? = some t → K45 (nI i)) :
    ∀ (r a : Nat), a + r = L.length → (∀ i, i < a → L[i]? ≠ some t) → wp_X1_heldAxis_L3 (Int32.ofInt t.1) (Int32.ofInt t.2.1) (Int32.ofInt t.2.2) np X Y Z c K54 K45 (r + 1) (nI a) := by
  intro r
  induction r with
  | zero =>
    intro a ha hno
    unfold wp_X1_heldAxis_L3
    rw [hL.1]
    refine ⟨fun _ => ?_, fun h => absurd (nI_le (by omega) (by omega)) h⟩
    rw [show a = L.length by omega]
    refine k54 (fun hm => ?_)
    obtain ⟨i, hi⟩ := List.mem_iff_getElem?.mp hm
    exact hno i (by have := (List.getElem?_eq_some_iff.mp hi).1; omega) hi
  | succ r ih =>
    intro a ha hno
    unfold wp_X1_heldAxis_L3
    have hal : a < L.length := by omega
    have hu := List.getElem?_eq_getElem hal
    obtain ⟨x1, x2, x3, _⟩ := hL.2 a _ hu
    obtain ⟨b1, b2, b3⟩ := hb _ (List.getElem_mem hal)
    obtain ⟨t1, t2, t3⟩ := id ht
    have i1 : vp_in (nI a) np := vp_in_nI (by omega) (by omega)
    rw [nI_clamp (n := a) (by omega), x1, x2, x3, eqI (by omega) (by omega), eqI (by omega) (by omega), eqI (by omega) (by omega), nI_1]
    have nxt : ¬ L[a] = t → wp_X1_heldAxis_L3 (Int32.ofInt t.1) (Int32.ofInt t.2.1) (Int32.ofInt t.2.2) np X Y Z c K54 K45 (r + 1) (nI (a + 1)) := by
      intro hne
      refine ih (a + 1) (by omega) (fun i hi e => ?_)
      by_cases c : i = a
      · subst c
        rw [hu] at e
        exact hne (Option.some.inj e)
      · exact hno i (by omega) e
    refine ⟨fun h => absurd (by rw [hL.1] at h; exact h) (nI_ge (by omega) (by omega)), fun _ => ⟨i1, fun c1 => ⟨i1, fun c2 => ⟨i1, fun c3 => ?_, fun c3 => nxt (fun e => c3 (by rw [e]))⟩, fun c2 => nxt (fun e => c2 (by rw [e]))⟩, fun c1 => nxt (fun e => c1 (by rw [e]))⟩⟩
    exact k45 a (by rw [hu]; exact congrArg some (Prod.ext c1 (Prod.ext c2 c3)))
theorem s_X1_heldAxis {L : List (Int × Int × Int)} {t : Int × Int × Int} {np nq : Nat} {c : Int32} {X Y Z S : Nat → Int32} {Q : Int32 → (Nat → Int32) → (Nat → Int32) → (Nat → Int32) → (Nat → Int32) → Int32 → Prop} (hL : hold4 L c X Y Z S) (hb : ∀ u ∈ L, b18 u) (ht : b18 t) (hn : L.length < np) (hp : np ≤ 100000)
    (h : ∀ i X' Y' Z' S' c', (if t ∈ L then L else L ++ [t])[i]? = some t → hold4 (if t ∈ L then L else L ++ [t]) c' X' Y' Z' S' → Q (nI i) X' Y' Z' S' c') : wp_X1_heldAxis (Int32.ofInt t.1) (Int32.ofInt t.2.1) (Int32.ofInt t.2.2) np nq (nI np) X Y Z S c Q := by
  unfold wp_X1_heldAxis
  refine ⟨L.length + 1, h_L3 hL hb ht (by omega) hp ?_ ?_ L.length 0 (by omega) (fun i hi => absurd hi (by omega))⟩
  · intro hm
    rw [if_neg hm] at h
    have hin : vp_in c np := by rw [hL.1]; exact vp_in_nI (by omega) (by omega)
    refine ⟨fun _ => ⟨hin, hin, hin, fun x1 e1 => ⟨hin, fun x2 e2 => ?_⟩⟩, fun hh => absurd (by rw [hL.1]; exact nI_lt hn (by omega)) hh⟩
    have e3 : x2 - 1 = nI L.length := by rw [e2, hL.1, nI_1, nI_pred]
    rw [e3]
    refine h L.length _ _ _ _ _ (by rw [List.getElem?_append_right (Nat.le_refl _)]; simp) ⟨by rw [e2, hL.1, nI_1, List.length_append]; rfl, fun i u hu => ?_⟩
    rw [hL.1, nI_clamp (by omega)]
    by_cases d : i = L.length
    · subst d
      rw [List.getElem?_append_right (Nat.le_refl _)] at hu
      simp at hu
      subst hu
      refine ⟨pk_us, pk_us, pk_us, ?_⟩
      rw [pk_us, e1, ← Int32.ofInt_mul, ← Int32.ofInt_mul, ← Int32.ofInt_mul, ← Int32.ofInt_add, ← Int32.ofInt_add]
    · have hi : i < (L ++ [t]).length := (List.getElem?_eq_some_iff.mp hu).1
      have hi2 : i < L.length := by simp at hi; omega
      rw [List.getElem?_append_left hi2] at hu
      rw [pk_un d, pk_un d, pk_un d, pk_un d]
      exact hL.2 i u hu
  · intro i hi
    have hm : t ∈ L := List.mem_of_getElem? hi
    rw [if_pos hm] at h
    exact h i _ _ _ _ _ hi hL
theorem s_X1_axisNumber {v k nq : Nat} {L : List (Int × Int × Int)} {c : Int32} {X Y Z S PX PY PZ : Nat → Int32} {Q : Int32 → (Nat → Int32) → (Nat → Int32) → (Nat → Int32) → (Nat → Int32) → Int32 → Prop} (hk : k < nPr v) (hp : nPr v ≤ 100000) (hT : tabP (nPol v) PX PY PZ) (hL : hold4 L c X Y Z S) (hb : ∀ u ∈ L, b18 u) (hn : L.length < nPr v)
    (h : ∀ i X' Y' Z' S' c', (if aI v k ∈ L then L else L ++ [aI v k])[i]? = some (aI v k) → hold4 (if aI v k ∈ L then L else L ++ [aI v k]) c' X' Y' Z' S' → Q (nI i) X' Y' Z' S' c') : wp_X1_axisNumber (nI (pA v k)) (nI (pB v k)) (nPr v) nq (nI (nPr v)) X Y Z S c PX PY PZ Q := by
  have hn' := nPol_le v
  obtain ⟨ha1, ha2, ha3⟩ := pAB_in hk
  unfold wp_X1_axisNumber
  have i1 : vp_in (nI (pA v k)) 171 := vp_in_nI (by omega) (by decide)
  have i2 : vp_in (nI (pB v k)) 171 := vp_in_nI (by omega) (by decide)
  obtain ⟨t1, t2, t3⟩ := hT (pA v k) (by omega)
  obtain ⟨t4, t5, t6⟩ := hT (pB v k) (by omega)
  rw [nI_clamp (n := pA v k) (by omega), nI_clamp (n := pB v k) (by omega), t1, t2, t3, t4, t5, t6]
  obtain ⟨e1, e2, e3⟩ := cross_I (v := v) (k := k)
  rw [e1, e2, e3]
  have hc := cI_b v k
  obtain ⟨b1, b2, b3⟩ := id hc
  refine ⟨i1, i2, i1, i2, fun x3 f3 => ⟨i1, i2, i1, i2, fun x4 f4 => ⟨i1, i2, i1, i2, fun x5 f5 => ?_⟩⟩⟩
  subst f3
  subst f4
  subst f5
  refine s_X5_signedDivisor (okI (by omega)) (okI (by omega)) (okI (by omega)) ?_
  rw [sdiv_I hc]
  have hd := dI_b hc
  have hne : ¬ Int32.ofInt (dI (cI v k)) = 0 := by
    rw [I0, eqI (by omega) (by omega)]
    exact dI_ne (cI_0 hk)
  refine ⟨fun h0 => absurd h0 hne, fun _ => ⟨hne, hne, hne, ?_⟩⟩
  rw [div_I (by omega) (by omega), div_I (by omega) (by omega), div_I (by omega) (by omega)]
  exact s_X1_heldAxis (t := aI v k) hL hb (aI_b v k) hn hp h
theorem i_L106 {v nq : Nat} {PX PY PZ A B : Nat → Int32} {K : Int32 → (Nat → Int32) → (Nat → Int32) → (Nat → Int32) → (Nat → Int32) → (Nat → Int32) → Int32 → Prop} (hp : nPr v ≤ 100000) (hT : tabP (nPol v) PX PY PZ) (hAB : ∀ k, k < nPr v → A k = nI (pA v k) ∧ B k = nI (pB v k)) :
    ∀ (r k : Nat) (O X Y Z S : Nat → Int32) (c : Int32), k + r = nPr v → hold4 (axL v k) c X Y Z S → (∀ j, j < k → ∃ i : Nat, O j = nI i ∧ (axL v k)[i]? = some (aI v j)) →
      (∀ w O' X' Y' Z' S' c', hold4 (axL v (nPr v)) c' X' Y' Z' S' → (∀ j, j < nPr v → ∃ i : Nat, O' j = nI i ∧ (axL v (nPr v))[i]? = some (aI v j)) → K w O' X' Y' Z' S' c') → wp_X1_init_L106 (nPr v) nq PX PY PZ (nI (nPr v)) A B K (r + 1) (nI k) O X Y Z S c := by
  intro r
  induction r with
  | zero =>
    intro k O X Y Z S c hk hL hO hK
    unfold wp_X1_init_L106
    have e : k = nPr v := by omega
    subst e
    exact ⟨fun _ => hK _ _ _ _ _ _ _ hL hO, fun h => absurd (nI_le (Nat.le_refl _) (by omega)) h⟩
  | succ r ih =>
    intro k O X Y Z S c hk hL hO hK
    unfold wp_X1_init_L106
    have hlt : k < nPr v := by omega
    have i1 : vp_in (nI k) (nPr v) := vp_in_nI hlt (by omega)
    rw [nI_clamp (n := k) (by omega), (hAB k hlt).1, (hAB k hlt).2, nI_1]
    refine ⟨fun h => absurd h (nI_ge (by omega) (by omega)), fun _ => ⟨i1, i1, s_X1_axisNumber hlt hp hT hL (axL_b v k) (by have := axL_len v k; omega) ?_⟩⟩
    intro i X' Y' Z' S' c' hi hL'
    refine ⟨i1, ?_⟩
    have e : (if aI v k ∈ axL v k then axL v k else axL v k ++ [aI v k]) = axL v (k + 1) := rfl
    rw [e] at hi hL'
    refine ih (k + 1) _ _ _ _ _ _ (by omega) hL' (fun j hj => ?_) hK
    by_cases d : j = k
    · subst d
      exact ⟨i, pk_us, hi⟩
    · obtain ⟨i', e1, e2⟩ := hO j (by omega)
      exact ⟨i', by rw [pk_un d]; exact e1, axL_pre v e2 1⟩
/-- the place of a pair's axis -/
theorem s_X1_init {v : Nat} {PX PY PZ : Nat → Int32} {Q : Int32 → Int32 → (Nat → Int32) → (Nat → Int32) → (Nat → Int32) → (Nat → Int32) → (Nat → Int32) → (Nat → Int32) → (Nat → Int32) → Int32 → (Nat → Int32) → Prop} (h1 : 1 ≤ v) (h3 : v ≤ 3) (hT : tabP (nPol v) PX PY PZ)
    (h : ∀ A B O X Y Z S, (∀ k, k < nPr v → A k = nI (pA v k) ∧ B k = nI (pB v k)) → hold4 (axL v (nPr v)) (nI (nAx v)) X Y Z S → (∀ j, j < nPr v → ∃ i : Nat, O j = nI i ∧ (axL v (nPr v))[i]? = some (aI v j)) → Q (nI (nPol v)) (nI (nPr v)) A B O X Y Z S (nI (nAx v)) (fun _ => 0)) : wp_X1_init (nI (nPol v)) (nPr v) (nPol v) PX PY PZ Q := by
  have hb := nPr_b h1 h3
  have hq := nPol_le v
  unfold wp_X1_init
  refine s_X1_countPairs hT ?_
  have n0 : ¬ nI (nPr v) < 0 := nI_pos (by omega)
  have n1 : (nI (nPr v)).toNatClampNeg = nPr v := nI_clamp (by omega)
  have n2 : nPr v ≤ 100000 := by omega
  have q0 : ¬ nI (nPol v) < 0 := nI_pos (by omega)
  have q1 : (nI (nPol v)).toNatClampNeg = nPol v := nI_clamp (by omega)
  have q2 : nPol v ≤ 100000 := by omega
  refine ⟨n0, n1, n2, n0, n1, n2, n0, n1, n2, n0, n1, n2, n0, n1, n2, n0, n1, n2, n0, n1, n2, q0, q1, q2, s_X1_fillPairs h1 h3 hT ?_⟩
  intro A B hAB
  refine ⟨nPr v + 1, i_L106 n2 hT hAB (nPr v) 0 _ _ _ _ _ _ (by omega) ⟨nI_0.symm, fun i t ht => by simp [axL] at ht⟩ (fun j hj => absurd hj (by omega)) ?_⟩
  intro w O X Y Z S c hL hO
  have ec : c = nI (nAx v) := hL.1
  subst ec
  exact h A B O X Y Z S hAB hL hO
