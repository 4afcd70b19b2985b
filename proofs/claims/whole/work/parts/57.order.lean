/-! LEVEL 2: the order of the kept, by counting -/
theorem ct_cong {p q : Nat → Bool} : ∀ {n : Nat}, (∀ k, k < n → p k = q k) → ct p n = ct q n
  | 0, _ => rfl
  | n + 1, h => by rw [ct, ct, ct_cong (fun k hk => h k (by omega)), h n (by omega)]
theorem ct_mono {p q : Nat → Bool} : ∀ {n : Nat}, (∀ k, k < n → p k = true → q k = true) → ct p n ≤ ct q n
  | 0, _ => Nat.le_refl _
  | n + 1, h => by
    have h1 := ct_mono (n := n) (fun k hk => h k (by omega))
    have h2 := h n (by omega)
    rw [ct, ct]
    by_cases c : p n = true
    · rw [if_pos c, if_pos (h2 c)]; omega
    · rw [if_neg c]; omega
theorem ct_one {p q : Nat → Bool} {s : Nat} (hp : p s = false) (hq : q s = true) : ∀ {n : Nat}, s < n → (∀ k, k < n → k ≠ s → p k = q k) → ct q n = ct p n + 1
  | n + 1, hs, h => by
    rw [ct, ct]
    by_cases c : s = n
    · subst c
      rw [ct_cong (p := q) (q := p) (fun k hk => (h k (by omega) (by omega)).symm), if_pos hq, hp]
      simp
    · rw [ct_one hp hq (n := n) (by omega) (fun k hk hne => h k (by omega) hne), h n (by omega) (fun e => c e.symm)]
      omega
theorem ct_zero {p : Nat → Bool} : ∀ {n : Nat}, (∀ k, k < n → p k = false) → ct p n = 0
  | 0, _ => rfl
  | n + 1, h => by rw [ct, ct_zero (n := n) (fun k hk => h k (by omega)), h n (by omega)]; rfl
def cn (p : Nat → Bool) (f : Nat → Nat) (N R s : Nat) : Nat := ct (fun t => p t && (decide (f t < R) || (decide (f t = R) && decide (t < s)))) N
section CN
variable {p : Nat → Bool} {f : Nat → Nat} {N : Nat}
theorem cn_step {R s : Nat} (hs : s < N) : cn p f N R (s + 1) = cn p f N R s + (if p s = true ∧ f s = R then 1 else 0) := by
  unfold cn
  by_cases c : p s = true ∧ f s = R
  · rw [if_pos c]
    refine ct_one (s := s) ?_ ?_ hs ?_
    · simp [c.2]
    · simp [c.1, c.2]
    · intro k hk hne
      have : decide (k < s) = decide (k < s + 1) := by
        by_cases d : k < s
        · simp [d, show k < s + 1 by omega]
        · simp [d, show ¬ k < s + 1 by omega]
      rw [this]
  · rw [if_neg c, Nat.add_zero]
    refine ct_cong (fun k hk => ?_)
    by_cases d : k = s
    · subst d
      by_cases e : p k = true
      · have e2 : ¬ f k = R := fun h => c ⟨e, h⟩
        simp [e2]
      · simp [e]
    · have : decide (k < s) = decide (k < s + 1) := by
        by_cases d : k < s
        · simp [d, show k < s + 1 by omega]
        · simp [d, show ¬ k < s + 1 by omega]
      rw [this]
theorem cn_next (R : Nat) : cn p f N R N = cn p f N (R + 1) 0 := by
  unfold cn
  refine ct_cong (fun k hk => ?_)
  by_cases a : f k < R
  · simp [a, show f k < R + 1 by omega]
  · by_cases b : f k = R
    · simp [b, hk]
    · simp [a, b, show ¬ f k < R + 1 by omega]
theorem cn_0 : cn p f N 0 0 = 0 := ct_zero (fun k hk => by simp)
theorem cn_le (R s : Nat) : cn p f N R s ≤ ct p N := ct_mono (fun k hk h => by simp at h; exact h.1)
theorem cn_all {R : Nat} (h : ∀ k, k < N → p k = true → f k < R) : cn p f N R 0 = ct p N := by
  unfold cn
  refine ct_cong (fun k hk => ?_)
  by_cases c : p k = true
  · simp [c, h k hk c]
  · simp [c]
theorem cn_mono {R s R' s' : Nat} (h : R < R' ∨ (R = R' ∧ s ≤ s')) : cn p f N R s ≤ cn p f N R' s' := by
  refine ct_mono (fun k hk hh => ?_)
  simp at hh ⊢
  refine ⟨hh.1, ?_⟩
  omega
/-- the place of a kept one -/
def pl (p : Nat → Bool) (f : Nat → Nat) (N s : Nat) : Nat := cn p f N (f s) s
theorem pl_lt {t s : Nat} (ht : t < N) (hp : p t = true) (h : f t < f s ∨ (f t = f s ∧ t < s)) : pl p f N t < pl p f N s := by
  unfold pl
  have h1 := cn_step (p := p) (f := f) (N := N) (R := f t) (s := t) ht
  rw [if_pos ⟨hp, rfl⟩] at h1
  have h2 := cn_mono (p := p) (f := f) (N := N) (R := f t) (s := t + 1) (R' := f s) (s' := s) (by omega)
  omega
theorem pl_ne {t s : Nat} (ht : t < N) (hs : s < N) (hp : p t = true) (hq : p s = true) (h : t ≠ s) : pl p f N t ≠ pl p f N s := by
  rcases Nat.lt_trichotomy (f t) (f s) with c | c | c
  · have := pl_lt ht hp (Or.inl c) (N := N); omega
  · rcases Nat.lt_or_gt_of_ne h with d | d
    · have := pl_lt (s := s) ht hp (Or.inr ⟨c, d⟩); omega
    · have := pl_lt (s := t) hs hq (Or.inr ⟨c.symm, d⟩); omega
  · have := pl_lt hs hq (Or.inl c) (N := N); omega
theorem pl_in {s : Nat} (hs : s < N) (hp : p s = true) : pl p f N s < ct p N := by
  unfold pl
  have h1 := cn_step (p := p) (f := f) (N := N) (R := f s) (s := s) hs
  rw [if_pos ⟨hp, rfl⟩] at h1
  have h2 := cn_le (p := p) (f := f) (N := N) (f s) (s + 1)
  omega
theorem pl_on_s {R k : Nat} : ∀ s, s ≤ N → k < cn p f N R s → k < cn p f N R 0 ∨ ∃ t, t < N ∧ p t = true ∧ pl p f N t = k
  | 0, _, h => Or.inl h
  | s + 1, hs, h => by
    rw [cn_step (by omega)] at h
    by_cases c : k < cn p f N R s
    · exact pl_on_s s (by omega) c
    · by_cases d : p s = true ∧ f s = R
      · rw [if_pos d] at h
        exact Or.inr ⟨s, by omega, d.1, by unfold pl; rw [d.2]; omega⟩
      · rw [if_neg d] at h
        omega
theorem pl_on_R {k : Nat} : ∀ R, k < cn p f N R 0 → ∃ t, t < N ∧ p t = true ∧ pl p f N t = k
  | 0, h => by rw [cn_0] at h; omega
  | R + 1, h => by
    rw [← cn_next] at h
    rcases pl_on_s N (Nat.le_refl _) h with c | c
    · exact pl_on_R R c
    · exact c
end CN
def rk (v : Nat) (σ : Nat → Nat → Int32) (s : Nat) : Nat := (mis v σ s - lst v σ) * 97 + nod v σ s
def plc (v : Nat) (σ : Nat → Nat → Int32) (e s : Nat) : Nat := pl (kep v σ e) (rk v σ) (2 * nPr v) s
theorem rk_lt {v e s : Nat} {σ : Nat → Nat → Int32} (hw : wfS σ) (hk : kep v σ e s = true) : rk v σ s < (e + 1) * 97 := by
  have h1 : mis v σ s ≤ lst v σ + e := by simpa [kep] using hk
  have h2 := nod_le (v := v) hw s
  unfold rk
  have h3 : (mis v σ s - lst v σ) * 97 ≤ e * 97 := Nat.mul_le_mul_right _ (by omega)
  rw [Nat.add_mul]
  omega
theorem plc_on {v e k : Nat} {σ : Nat → Nat → Int32} (hw : wfS σ) (hk : k < nKp v σ e) : ∃ s, s < 2 * nPr v ∧ kep v σ e s = true ∧ plc v σ e s = k := by
  refine pl_on_R ((e + 1) * 97) ?_
  rw [cn_all (fun s hs h => rk_lt hw h)]
  exact hk
noncomputable def ordK (v : Nat) (σ : Nat → Nat → Int32) (e k : Nat) : Nat := if h : ∃ s, s < 2 * nPr v ∧ kep v σ e s = true ∧ plc v σ e s = k then h.choose else 0
theorem ordK_spec {v e k : Nat} {σ : Nat → Nat → Int32} (hw : wfS σ) (hk : k < nKp v σ e) : ordK v σ e k < 2 * nPr v ∧ kep v σ e (ordK v σ e k) = true ∧ plc v σ e (ordK v σ e k) = k := by
  have h := plc_on hw hk
  unfold ordK
  rw [dif_pos h]
  exact h.choose_spec
/-- what the rows of the order hold -/
def tabO (v : Nat) (σ : Nat → Nat → Int32) (e : Nat) (O P : Nat → Int32) : Prop := (∀ k, k < nKp v σ e → O k = nI (ordK v σ e k)) ∧ ∀ s, s < 2 * nPr v → P s = if kep v σ e s = true then nI (plc v σ e s) else -9
theorem tabO_of {v e : Nat} {σ : Nat → Nat → Int32} {O P : Nat → Int32} (hw : wfS σ) (h : ∀ s, s < 2 * nPr v → kep v σ e s = true → O (plc v σ e s) = nI s) (hP : ∀ s, s < 2 * nPr v → P s = if kep v σ e s = true then nI (plc v σ e s) else -9) : tabO v σ e O P := by
  refine ⟨fun k hk => ?_, hP⟩
  obtain ⟨h1, h2, h3⟩ := ordK_spec hw hk
  have := h _ h1 h2
  rw [h3] at this
  exact this
