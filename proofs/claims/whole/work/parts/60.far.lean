/-! LEVEL 2: how far axes are apart; unlike axes, spread, centre: pure -/
abbrev T3 : Type := Int × Int × Int
def dotI (t u : T3) : Int := t.1 * u.1 + t.2.1 * u.2.1 + t.2.2 * u.2.2
def dnI (t u : T3) : Int := dotI t t * dotI u u
def upI (t u : T3) : Int := dnI t u - dotI t u * dotI t u
theorem mul_bd {a b : Int} {m n : Nat} (ha : a.natAbs ≤ m) (hb : b.natAbs ≤ n) : (a * b).natAbs ≤ m * n := by
  rw [Int.natAbs_mul]
  exact Nat.mul_le_mul ha hb
theorem dotI_b {t u : T3} (ht : b18 t) (hu : b18 u) : -972 ≤ dotI t u ∧ dotI t u ≤ 972 := by
  obtain ⟨h1, h2, h3⟩ := ht
  obtain ⟨g1, g2, g3⟩ := hu
  have m1 := mul_bd (a := t.1) (b := u.1) (m := 18) (n := 18) (by omega) (by omega)
  have m2 := mul_bd (a := t.2.1) (b := u.2.1) (m := 18) (n := 18) (by omega) (by omega)
  have m3 := mul_bd (a := t.2.2) (b := u.2.2) (m := 18) (n := 18) (by omega) (by omega)
  unfold dotI
  omega
def nz3 (t : T3) : Prop := ¬ (t.1 = 0 ∧ t.2.1 = 0 ∧ t.2.2 = 0)
theorem sq_p {t : T3} (h : nz3 t) : 0 < dotI t t := sq_pos h
theorem dnI_b {t u : T3} (ht : b18 t) (hu : b18 u) (nt : nz3 t) (nu : nz3 u) : 0 < dnI t u ∧ dnI t u ≤ 944784 := by
  have h1 := dotI_b ht ht
  have h2 := dotI_b hu hu
  have m := mul_bd (a := dotI t t) (b := dotI u u) (m := 972) (n := 972) (by omega) (by omega)
  have p : 0 < dotI t t * dotI u u := Int.mul_pos (sq_p nt) (sq_p nu)
  unfold dnI
  omega
theorem sqn (u : Int) : 0 ≤ u * u := by
  rcases Int.le_total 0 u with h | h
  · exact Int.mul_nonneg h h
  · exact Int.mul_nonneg_of_nonpos_of_nonpos h h
theorem upI_b (t u : T3) : 0 ≤ upI t u ∧ upI t u ≤ dnI t u := by
  have e : upI t u = (t.2.1 * u.2.2 - t.2.2 * u.2.1) * (t.2.1 * u.2.2 - t.2.2 * u.2.1) + (t.2.2 * u.1 - t.1 * u.2.2) * (t.2.2 * u.1 - t.1 * u.2.2) + (t.1 * u.2.1 - t.2.1 * u.1) * (t.1 * u.2.1 - t.2.1 * u.1) := by
    unfold upI dnI dotI
    grind
  have h1 := sqn (t.2.1 * u.2.2 - t.2.2 * u.2.1)
  have h2 := sqn (t.2.2 * u.1 - t.1 * u.2.2)
  have h3 := sqn (t.1 * u.2.1 - t.2.1 * u.1)
  have h4 := sqn (dotI t u)
  refine ⟨by omega, ?_⟩
  unfold upI
  omega
def fstp (t : T3) (f : Int × Int) (u : T3) : Int × Int := if f.1 * dnI t u < upI t u * f.2 then (upI t u, dnI t u) else f
def far (L : List T3) (t : T3) : Int × Int := L.foldl (fstp t) (0, 1)
def okf (f : Int × Int) : Prop := 0 ≤ f.1 ∧ f.1 ≤ f.2 ∧ 0 < f.2 ∧ f.2 ≤ 944784 ∧ (f.1 = 0 → f = (0, 1))
theorem okf_0 : okf (0, 1) := ⟨by decide, by decide, by decide, by decide, fun _ => rfl⟩
theorem okf_step {t u : T3} {f : Int × Int} (h : okf f) (ht : b18 t) (hu : b18 u) (nt : nz3 t) (nu : nz3 u) : okf (fstp t f u) := by
  unfold fstp
  split
  · rename_i c
    obtain ⟨d1, d2⟩ := dnI_b ht hu nt nu
    obtain ⟨u1, u2⟩ := upI_b t u
    obtain ⟨f1, f2, f3, f4, f5⟩ := h
    refine ⟨u1, u2, d1, d2, fun e => ?_⟩
    exfalso
    have e2 : upI t u = 0 := e
    rw [e2, Int.zero_mul] at c
    have := Int.mul_nonneg f1 (Int.le_of_lt d1)
    omega
  · exact h
theorem okf_fold {t : T3} (ht : b18 t) (nt : nz3 t) : ∀ {L : List T3} {f : Int × Int}, okf f → (∀ u ∈ L, b18 u ∧ nz3 u) → okf (L.foldl (fstp t) f)
  | [], f, h, _ => h
  | u :: L, f, h, hL => by
    rw [List.foldl_cons]
    exact okf_fold ht nt (okf_step h ht (hL u (by simp)).1 nt (hL u (by simp)).2) (fun w hw => hL w (by simp [hw]))
theorem okf_far {L : List T3} {t : T3} (ht : b18 t) (nt : nz3 t) (hL : ∀ u ∈ L, b18 u ∧ nz3 u) : okf (far L t) := okf_fold ht nt okf_0 hL
/-- once as far as can be, nothing is farther -/
theorem far_stop {t : T3} {f : Int × Int} (hf : f.1 = f.2) (hp : 0 < f.2) : ∀ {L : List T3}, L.foldl (fstp t) f = f
  | [] => rfl
  | u :: L => by
    have e : fstp t f u = f := by
      unfold fstp
      rw [if_neg]
      rw [hf]
      have h := (upI_b t u).2
      have := Int.mul_le_mul_of_nonneg_right h (Int.le_of_lt hp)
      rw [Int.mul_comm (dnI t u)] at this
      omega
    rw [List.foldl_cons, e]
    exact far_stop hf hp
theorem fstp_one {t u : T3} {f : Int × Int} (hf : okf f) (hd : 0 < dnI t u) (e : upI t u = dnI t u) : (fstp t f u).1 = (fstp t f u).2 ∧ 0 < (fstp t f u).2 := by
  unfold fstp
  split
  · exact ⟨e, hd⟩
  · rename_i c
    obtain ⟨f1, f2, f3, f4, f5⟩ := hf
    refine ⟨?_, f3⟩
    rw [e] at c
    have c2 : dnI t u * f.2 ≤ f.1 * dnI t u := by omega
    rw [Int.mul_comm (dnI t u)] at c2
    have := Int.le_of_mul_le_mul_right c2 hd
    omega
/-! the unlike axes of the kept, in their order -/
noncomputable def tK (v : Nat) (σ : Nat → Nat → Int32) (e k : Nat) : T3 := aI v (ordK v σ e k / 2)
noncomputable def uL (v : Nat) (σ : Nat → Nat → Int32) (e : Nat) : Nat → List T3
  | 0 => []
  | n + 1 => if tK v σ e n ∈ uL v σ e n then uL v σ e n else uL v σ e n ++ [tK v σ e n]
noncomputable def uF (v : Nat) (σ : Nat → Nat → Int32) (e : Nat) : Nat → List Nat
  | 0 => []
  | n + 1 => if tK v σ e n ∈ uL v σ e n then uF v σ e n else uF v σ e n ++ [ordK v σ e n]
section UL
variable {v : Nat} {σ : Nat → Nat → Int32} {e : Nat}
theorem uL_len : ∀ n, (uL v σ e n).length ≤ n
  | 0 => Nat.le_refl _
  | n + 1 => by
    have := uL_len n
    rw [uL]
    split
    · omega
    · rw [List.length_append]; simp; omega
theorem uF_len : ∀ n, (uF v σ e n).length = (uL v σ e n).length
  | 0 => rfl
  | n + 1 => by
    rw [uL, uF]
    split
    · exact uF_len n
    · rw [List.length_append, List.length_append, uF_len n]; rfl
theorem uL_nd : ∀ n, (uL v σ e n).Nodup
  | 0 => by simp [uL]
  | n + 1 => by
    rw [uL]
    split
    · exact uL_nd n
    · rename_i hc
      exact List.nodup_append.mpr ⟨uL_nd n, by simp, by
        intro a ha b hb e
        simp at hb
        subst hb
        subst e
        exact hc ha⟩
theorem uL_in : ∀ {n : Nat} {t : T3}, t ∈ uL v σ e n → ∃ k, k < n ∧ t = tK v σ e k
  | 0, t, h => by simp [uL] at h
  | n + 1, t, h => by
    rw [uL] at h
    split at h
    · obtain ⟨k, h1, h2⟩ := uL_in h; exact ⟨k, by omega, h2⟩
    · rcases List.mem_append.mp h with h | h
      · obtain ⟨k, h1, h2⟩ := uL_in h; exact ⟨k, by omega, h2⟩
      · simp at h; exact ⟨n, by omega, h⟩
theorem uL_mem : ∀ {n k : Nat}, k < n → tK v σ e k ∈ uL v σ e n
  | n + 1, k, h => by
    rw [uL]
    by_cases c : k = n
    · subst c
      split
      · assumption
      · simp
    · have ih := uL_mem (n := n) (k := k) (by omega)
      split
      · exact ih
      · exact List.mem_append_left _ ih
theorem uL_pre {n i : Nat} {t : T3} (h : (uL v σ e n)[i]? = some t) : ∀ m, (uL v σ e (n + m))[i]? = some t
  | 0 => h
  | m + 1 => by
    have ih := uL_pre h m
    rw [← Nat.add_assoc, uL]
    split
    · exact ih
    · rw [List.getElem?_append_left (List.getElem?_eq_some_iff.mp ih).1]; exact ih
theorem tK_ok (hw : wfS σ) {k : Nat} (hk : k < nKp v σ e) : b18 (tK v σ e k) ∧ nz3 (tK v σ e k) := by
  obtain ⟨h1, h2, h3⟩ := ordK_spec hw hk
  exact ⟨aI_b _ _, aI_0 (by omega)⟩
theorem uL_ok (hw : wfS σ) {n : Nat} (hn : n ≤ nKp v σ e) : ∀ t ∈ uL v σ e n, b18 t ∧ nz3 t := by
  intro t ht
  obtain ⟨k, h1, h2⟩ := uL_in ht
  rw [h2]
  exact tK_ok hw (by omega)
end UL
theorem nKp_pos {v e : Nat} {σ : Nat → Nat → Int32} (h1 : 1 ≤ v) (h3 : v ≤ 3) (hw : wfS σ) : 0 < nKp v σ e := by
  have hb := nPr_b h1 h3
  obtain ⟨s, h4, h5⟩ := minN_at (mis v σ) (fun k => mis_le hw k) (2 * nPr v) (by omega)
  have hk : kep v σ e s = true := by
    unfold kep lst
    rw [h5]
    simp
  have := pl_in (p := kep v σ e) (f := rk v σ) (N := 2 * nPr v) (s := s) (by omega) hk
  unfold nKp
  omega
/-- all unlike axes, how far each is from the farthest -/
noncomputable def uA (v : Nat) (σ : Nat → Nat → Int32) (e : Nat) : List T3 := uL v σ e (nKp v σ e)
noncomputable def fF (v : Nat) (σ : Nat → Nat → Int32) (e : Nat) (t : T3) : Int × Int := far (uA v σ e) t
theorem fF_ok {v e : Nat} {σ : Nat → Nat → Int32} (hw : wfS σ) {t : T3} (ht : t ∈ uA v σ e) : okf (fF v σ e t) := by
  have h := uL_ok (v := v) (e := e) hw (Nat.le_refl _)
  exact okf_far (h t ht).1 (h t ht).2 h
def sp1 (cur f : Int × Int) : Int × Int := if cur.1 * f.2 < f.1 * cur.2 then f else cur
noncomputable def sprd (v : Nat) (σ : Nat → Nat → Int32) (e : Nat) : Int × Int := (uA v σ e).foldl (fun cur t => sp1 cur (fF v σ e t)) (0, 1)
def ce1 (st : (Int × Int) × Nat) (f : Int × Int) (s : Nat) : (Int × Int) × Nat := if f.1 * st.1.2 < st.1.1 * f.2 then (f, s) else st
/-- the centre, as one finds it going through the kept -/
noncomputable def mcen (v : Nat) (σ : Nat → Nat → Int32) (e : Nat) : Nat → (Int × Int) × Nat
  | 0 => (fF v σ e (tK v σ e 0), 0)
  | n + 1 => if (fF v σ e (tK v σ e (n + 1))).1 * (mcen v σ e n).1.2 < (mcen v σ e n).1.1 * (fF v σ e (tK v σ e (n + 1))).2 then (fF v σ e (tK v σ e (n + 1)), n + 1) else mcen v σ e n
noncomputable def cenS (v : Nat) (σ : Nat → Nat → Int32) (e : Nat) : Nat := ordK v σ e (mcen v σ e (nKp v σ e - 1)).2
theorem fr_trans {a b c d f g : Int} (hd : 0 < d) (hb : 0 < b) (hg : 0 < g) (h1 : a * d < c * b) (h2 : c * g ≤ f * d) : a * g ≤ f * b := by
  have k1 : a * d * g < c * b * g := Int.mul_lt_mul_of_pos_right h1 hg
  have k2 : c * g * b ≤ f * d * b := Int.mul_le_mul_of_nonneg_right h2 (Int.le_of_lt hb)
  have e1 : a * d * g = a * g * d := by grind
  have e2 : c * b * g = c * g * b := by grind
  have e3 : f * d * b = f * b * d := by grind
  have k3 : a * g * d < f * b * d := by omega
  exact Int.le_of_lt (Int.lt_of_mul_lt_mul_right k3 (Int.le_of_lt hd))
section MC
variable {v : Nat} {σ : Nat → Nat → Int32} {e : Nat}
theorem mcen_ok (hw : wfS σ) : ∀ n, n < nKp v σ e → okf (mcen v σ e n).1 ∧ (mcen v σ e n).2 ≤ n ∧ (mcen v σ e n).1 = fF v σ e (tK v σ e (mcen v σ e n).2) ∧ ∀ k, k ≤ n → (mcen v σ e n).1.1 * (fF v σ e (tK v σ e k)).2 ≤ (fF v σ e (tK v σ e k)).1 * (mcen v σ e n).1.2
  | 0, h => by
    refine ⟨fF_ok hw (uL_mem h), Nat.le_refl _, rfl, fun k hk => ?_⟩
    have e0 : k = 0 := by omega
    subst e0
    exact Int.le_refl _
  | n + 1, h => by
    obtain ⟨h1, h2, h3, h4⟩ := mcen_ok hw n (by omega)
    have hf := fF_ok (v := v) (e := e) hw (uL_mem h)
    rw [mcen]
    split
    · rename_i c
      refine ⟨hf, Nat.le_refl _, rfl, fun k hk => ?_⟩
      by_cases d : k = n + 1
      · subst d; exact Int.le_refl _
      · have hk2 := h4 k (by omega)
        have hfk := fF_ok (v := v) (e := e) hw (uL_mem (n := nKp v σ e) (k := k) (by omega))
        exact fr_trans h1.2.2.1 hf.2.2.1 hfk.2.2.1 c hk2
    · rename_i c
      refine ⟨h1, by omega, h3, fun k hk => ?_⟩
      by_cases d : k = n + 1
      · subst d; omega
      · exact h4 k (by omega)
/-- going through the unlike ones alone finds the same -/
theorem mcen_skip (hw : wfS σ) {n : Nat} (hn : n + 1 < nKp v σ e) (hm : tK v σ e (n + 1) ∈ uL v σ e (n + 1)) : mcen v σ e (n + 1) = mcen v σ e n := by
  obtain ⟨k, h1, h2⟩ := uL_in hm
  obtain ⟨_, _, _, h4⟩ := mcen_ok (v := v) (e := e) hw n (by omega)
  have := h4 k (by omega)
  rw [mcen, if_neg]
  rw [h2]
  omega
end MC
/-! in the machine's numbers -/
theorem lg_le0 (x y : Int64) : lg_cmp x y ≤ 0 ↔ x ≤ y := by
  unfold lg_cmp
  simp only [gt_iff_lt, Int64.lt_iff_toInt_lt, Int64.le_iff_toInt_le, ← Int64.toInt_inj]
  repeat' split
  · constructor
    · intro h; exact absurd h (by decide)
    · intro h; omega
  · constructor
    · intro _; omega
    · intro _; decide
  · constructor
    · intro _; omega
    · intro _; decide
def b40 (x : Int) : Prop := -1000000000000 ≤ x ∧ x ≤ 1000000000000
theorem t64 {a : Int} (h : b40 a) : (Int64.ofInt a).toInt = a := by
  unfold b40 at h
  exact Int64.toInt_ofInt_of_le (by omega) (by omega)
theorem le64 {a b : Int} (ha : b40 a) (hb : b40 b) : Int64.ofInt a ≤ Int64.ofInt b ↔ a ≤ b := by
  rw [Int64.le_iff_toInt_le, t64 ha, t64 hb]
theorem w64 {a : Int} (h : -2000000000 ≤ a ∧ a ≤ 2000000000) : (Int32.ofInt a).toInt64 = Int64.ofInt a := by
  have e1 : Int32.minValue.toInt = -2147483648 := rfl
  have e2 : Int32.maxValue.toInt = 2147483647 := rfl
  exact Int32.toInt64_ofInt (by omega) (by omega)
theorem prod_b {a b : Int} (ha : -1000000 ≤ a ∧ a ≤ 1000000) (hb : -1000000 ≤ b ∧ b ≤ 1000000) : b40 (a * b) := by
  have m := mul_bd (a := a) (b := b) (m := 1000000) (n := 1000000) (by omega) (by omega)
  unfold b40
  omega
theorem s_X5_isGreater {a b c d : Int} {Q : Int32 → Prop} (ha : -1000000 ≤ a ∧ a ≤ 1000000) (hb : -1000000 ≤ b ∧ b ≤ 1000000) (hc : -1000000 ≤ c ∧ c ≤ 1000000) (hd : -1000000 ≤ d ∧ d ≤ 1000000) (h1 : c * b < a * d → Q 1) (h0 : ¬ c * b < a * d → Q 0) : wp_X5_isGreater (Int32.ofInt a) (Int32.ofInt b) (Int32.ofInt c) (Int32.ofInt d) Q := by
  unfold wp_X5_isGreater
  rw [w64 (by omega), w64 (by omega), w64 (by omega), w64 (by omega), ← Int64.ofInt_mul, ← Int64.ofInt_mul, lg_le0, le64 (prod_b ha hd) (prod_b hc hb)]
  exact ⟨fun h => h0 (by omega), fun h => h1 (by omega)⟩
