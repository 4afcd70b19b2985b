/-! LEVEL 2: the model's order -/
def bef (v : Nat) (σ : Nat → Nat → Int32) (R s t : Nat) : Prop := rk v σ t < R ∨ (rk v σ t = R ∧ t < s)
def cnV (v : Nat) (σ : Nat → Nat → Int32) (e R s : Nat) : Nat := cn (kep v σ e) (rk v σ) (2 * nPr v) R s
def ordInv (v : Nat) (σ : Nat → Nat → Int32) (e R s : Nat) (a : Int32) (O P : Nat → Int32) : Prop := a = nI (cnV v σ e R s) ∧ (∀ t, t < 2 * nPr v → kep v σ e t = true → bef v σ R s t → O (plc v σ e t) = nI t ∧ P t = nI (plc v σ e t)) ∧ (∀ t, t < 2 * nPr v → ¬ (kep v σ e t = true ∧ bef v σ R s t) → P t = -9)
theorem bef_full {v e R s : Nat} {σ : Nat → Nat → Int32} (h : nKp v σ e ≤ cnV v σ e R s) {t : Nat} (ht : t < 2 * nPr v) (hk : kep v σ e t = true) : bef v σ R s t := by
  unfold bef
  by_cases c : rk v σ t < R ∨ (rk v σ t = R ∧ t < s)
  · exact c
  · exfalso
    have h1 : cnV v σ e R s ≤ plc v σ e t := cn_mono (by omega)
    have h2 : plc v σ e t < nKp v σ e := pl_in ht hk
    omega
theorem ordInv_full {v e R s : Nat} {σ : Nat → Nat → Int32} {a : Int32} {O P : Nat → Int32} (hs : s ≤ 2 * nPr v) (h : ordInv v σ e R s a O P) (hf : nKp v σ e ≤ cnV v σ e R s) : ordInv v σ e R (2 * nPr v) a O P := by
  obtain ⟨h1, h2, h3⟩ := h
  have e1 : cnV v σ e R s ≤ cnV v σ e R (2 * nPr v) := cn_mono (by omega)
  have e2 : cnV v σ e R (2 * nPr v) ≤ nKp v σ e := cn_le _ _
  refine ⟨by rw [h1]; congr 1; omega, fun t ht hk _ => h2 t ht hk (bef_full hf ht hk), fun t ht hn => h3 t ht (fun q => hn ⟨q.1, ?_⟩)⟩
  rcases q.2 with c | c
  · exact Or.inl c
  · exact Or.inr ⟨c.1, ht⟩
theorem ordInv_next {v e R : Nat} {σ : Nat → Nat → Int32} {a : Int32} {O P : Nat → Int32} (h : ordInv v σ e R (2 * nPr v) a O P) : ordInv v σ e (R + 1) 0 a O P := by
  obtain ⟨h1, h2, h3⟩ := h
  refine ⟨by rw [h1]; unfold cnV; rw [cn_next], fun t ht hk hb => h2 t ht hk ?_, fun t ht hn => h3 t ht (fun q => hn ⟨q.1, ?_⟩)⟩
  · unfold bef at hb ⊢; omega
  · have := q.2; unfold bef at this ⊢; omega
theorem key_iff {v e m w s : Nat} {σ : Nat → Nat → Int32} (hw : wfS σ) (hs : s < 2 * nPr v) (hm : lst v σ ≤ m) (hm2 : m ≤ lst v σ + e) (hw2 : w ≤ 96) : (mis v σ s = m ∧ nod v σ s = w) ↔ (kep v σ e s = true ∧ rk v σ s = (m - lst v σ) * 97 + w) := by
  have h1 := nod_le (v := v) hw s
  have h2 : lst v σ ≤ mis v σ s := minN_le _ hs
  unfold rk kep
  simp only [decide_eq_true_eq]
  constructor
  · intro ⟨a, b⟩
    subst a; subst b
    exact ⟨hm2, rfl⟩
  · intro ⟨a, b⟩
    omega
theorem ordInv_put {v e R s : Nat} {σ : Nat → Nat → Int32} {a : Int32} {O P : Nat → Int32} (hs : s < 2 * nPr v) (hb : nPr v ≤ 546) (h : ordInv v σ e R s a O P) (hk : kep v σ e s = true) (hr : rk v σ s = R) : ordInv v σ e R (s + 1) (a + 1) (upd O a.toNatClampNeg (nI s)) (upd P s a) := by
  obtain ⟨h1, h2, h3⟩ := h
  have ep : plc v σ e s = cnV v σ e R s := by unfold plc pl cnV; rw [hr]
  have hlt : plc v σ e s < nKp v σ e := pl_in hs hk
  have hk2 : nKp v σ e ≤ 2 * nPr v := ct_le _ _
  subst h1
  rw [nI_clamp (by omega), ← ep]
  refine ⟨?_, fun t ht hkt hbt => ?_, fun t ht hn => ?_⟩
  · rw [ep]
    unfold cnV
    rw [cn_step hs, if_pos ⟨hk, hr⟩, nI_1]
  · by_cases c : t = s
    · subst c
      exact ⟨pk_us, pk_us⟩
    · have hb2 : bef v σ R s t := by unfold bef at hbt ⊢; omega
      obtain ⟨g1, g2⟩ := h2 t ht hkt hb2
      have hne : plc v σ e t ≠ plc v σ e s := pl_ne ht hs hkt hk c
      rw [pk_un hne, pk_un c]
      exact ⟨g1, g2⟩
  · have hne : t ≠ s := fun c => by
      subst c
      exact hn ⟨hk, Or.inr ⟨hr, by omega⟩⟩
    rw [pk_un hne]
    refine h3 t ht (fun q => hn ⟨q.1, ?_⟩)
    have := q.2
    unfold bef at this ⊢
    omega
theorem ordInv_skip {v e R s : Nat} {σ : Nat → Nat → Int32} {a : Int32} {O P : Nat → Int32} (hs : s < 2 * nPr v) (h : ordInv v σ e R s a O P) (hk : ¬ (kep v σ e s = true ∧ rk v σ s = R)) : ordInv v σ e R (s + 1) a O P := by
  obtain ⟨h1, h2, h3⟩ := h
  refine ⟨?_, fun t ht hkt hbt => ?_, fun t ht hn => ?_⟩
  · rw [h1]
    unfold cnV
    rw [cn_step hs, if_neg hk, Nat.add_zero]
  · refine h2 t ht hkt ?_
    by_cases c : t = s
    · subst c
      rcases hbt with d | d
      · exact Or.inl d
      · exact absurd ⟨hkt, d.1⟩ hk
    · unfold bef at hbt ⊢; omega
  · refine h3 t ht (fun q => hn ⟨q.1, ?_⟩)
    have := q.2
    unfold bef at this ⊢
    omega
theorem kn_L74 {v e m w : Nat} {σ : Nat → Nat → Int32} {M N : Nat → Int32} {K : Int32 → Int32 → (Nat → Int32) → (Nat → Int32) → Prop} (h1 : 1 ≤ v) (h3 : v ≤ 3) (hw : wfS σ) (hT : tabM v σ (2 * nPr v) M N) (hm : lst v σ ≤ m) (hm2 : m ≤ lst v σ + e) (hm3 : m ≤ 200) (hw2 : w ≤ 96)
    (hK : ∀ a c O P, ordInv v σ e ((m - lst v σ) * 97 + w) (2 * nPr v) a O P → K a c O P) :
    ∀ (r s : Nat) (a : Int32) (O P : Nat → Int32), s + r = 2 * nPr v → ordInv v σ e ((m - lst v σ) * 97 + w) s a O P → wp_X6_knows_L74 (nI (nPr v)) (nI (nKp v σ e)) M N (nI m) (nI w) K (r + 1) a (nI s) O P := by
  have hb := nPr_b h1 h3
  have hkl : nKp v σ e ≤ 2 * nPr v := ct_le _ _
  intro r
  induction r with
  | zero =>
    intro s a O P hs hI
    unfold wp_X6_knows_L74
    have e : s = 2 * nPr v := by omega
    subst e
    rw [two_nI]
    exact ⟨fun _ => hK _ _ _ _ hI, fun h => absurd (nI_le (Nat.le_refl _) (by omega)) h⟩
  | succ r ih =>
    intro s a O P hs hI
    have i2 : vp_in (nI s) 2320 := vp_in_nI (by omega) (by decide)
    have hlt : s < 2 * nPr v := by omega
    have hmis := mis_le (v := v) hw s
    have hnod := nod_le (v := v) hw s
    have hcl : cnV v σ e ((m - lst v σ) * 97 + w) s ≤ nKp v σ e := cn_le _ _
    unfold wp_X6_knows_L74
    rw [two_nI, nI_clamp (n := s) (by omega), (hT s hlt).1, (hT s hlt).2, nI_eq (by omega) (by omega), nI_eq (by omega) (by omega)]
    have key := key_iff (e := e) hw hlt hm hm2 hw2
    refine ⟨fun h => absurd h (nI_ge (by omega) (by omega)), fun _ => ⟨fun c => ?_, fun c => ⟨i2, fun c1 => ⟨i2, fun c2 => ⟨?_, i2, ?_⟩, fun c2 => ?_⟩, fun c1 => ?_⟩⟩⟩
    · refine hK _ _ _ _ (ordInv_full (by omega) hI ?_)
      rw [hI.1] at c
      exact (nI_leI (by omega) (by omega)).mp c
    · rw [hI.1]
      have : ¬ nKp v σ e ≤ cnV v σ e ((m - lst v σ) * 97 + w) s := fun h => c (by rw [hI.1]; exact nI_le h (by omega))
      exact vp_in_nI (by omega) (by decide)
    · obtain ⟨k1, k2⟩ := key.mp ⟨c1, c2⟩
      rw [nI_1]
      exact ih (s + 1) _ _ _ (by omega) (ordInv_put hlt hb.2 hI k1 k2)
    · rw [nI_1]
      exact ih (s + 1) _ _ _ (by omega) (ordInv_skip hlt hI (fun q => c2 (key.mpr q).2))
    · rw [nI_1]
      exact ih (s + 1) _ _ _ (by omega) (ordInv_skip hlt hI (fun q => c1 (key.mpr q).1))
theorem kn_L65 {v e m : Nat} {σ : Nat → Nat → Int32} {M N : Nat → Int32} {K : Int32 → Int32 → (Nat → Int32) → (Nat → Int32) → Prop} (h1 : 1 ≤ v) (h3 : v ≤ 3) (hw : wfS σ) (hT : tabM v σ (2 * nPr v) M N) (hm : lst v σ ≤ m) (hm2 : m ≤ lst v σ + e) (hm3 : m ≤ 200)
    (hK : ∀ a c O P, ordInv v σ e ((m + 1 - lst v σ) * 97) 0 a O P → K a c O P) :
    ∀ (r w : Nat) (a : Int32) (O P : Nat → Int32), w + r = 97 → ordInv v σ e ((m - lst v σ) * 97 + w) 0 a O P → wp_X6_knows_L65 (nI (nPr v)) (nI (nKp v σ e)) M N (nI m) K (r + 1) a (nI w) O P := by
  have l96 : ∀ {w : Nat}, w < 2 ^ 31 → ((96 : Int32) < nI w ↔ 96 < w) := fun {w} h => nI_ltI (a := 96) (by decide) h
  intro r
  induction r with
  | zero =>
    intro w a O P hs hI
    unfold wp_X6_knows_L65
    rw [l96 (by omega)]
    refine ⟨fun _ => hK _ _ _ _ ?_, fun h => absurd (by omega) h⟩
    have : (m + 1 - lst v σ) * 97 = (m - lst v σ) * 97 + w := by
      rw [show m + 1 - lst v σ = (m - lst v σ) + 1 by omega, Nat.add_mul]; omega
    rw [this]
    exact hI
  | succ r ih =>
    intro w a O P hs hI
    unfold wp_X6_knows_L65
    rw [l96 (by omega)]
    refine ⟨fun h => absurd h (by omega), fun _ => ⟨2 * nPr v + 1, kn_L74 h1 h3 hw hT hm hm2 hm3 (by omega) ?_ (2 * nPr v) 0 a O P (by omega) hI⟩⟩
    intro a' c O' P' hI'
    rw [nI_1]
    exact ih (w + 1) a' O' P' (by omega) (ordInv_next hI')
theorem kn_L50 {v e : Nat} {σ : Nat → Nat → Int32} {M N : Nat → Int32} {K : Int32 → Int32 → (Nat → Int32) → (Nat → Int32) → Prop} (h1 : 1 ≤ v) (h3 : v ≤ 3) (he : e ≤ 9) (hw : wfS σ) (hT : tabM v σ (2 * nPr v) M N)
    (hK : ∀ a c O P, tabO v σ e O P → K a c O P) :
    ∀ (r m : Nat) (a : Int32) (O P : Nat → Int32), m + r = lst v σ + e + 1 → lst v σ ≤ m → ordInv v σ e ((m - lst v σ) * 97) 0 a O P → wp_X6_knows_L50 (nI e) (nI (nPr v)) (nI (lst v σ)) (nI (nKp v σ e)) M N K (r + 1) a (nI m) O P := by
  have hl : lst v σ ≤ 96 := minN_le96 _ _
  intro r
  induction r with
  | zero =>
    intro m a O P hs hm hI
    unfold wp_X6_knows_L50
    rw [nI_add, nI_ltI (by omega) (by omega)]
    refine ⟨fun _ => hK _ _ _ _ ?_, fun h => absurd (by omega) h⟩
    obtain ⟨g1, g2, g3⟩ := hI
    have hR : (m - lst v σ) * 97 = (e + 1) * 97 := by rw [show m - lst v σ = e + 1 by omega]
    have all : ∀ t, t < 2 * nPr v → kep v σ e t = true → bef v σ ((m - lst v σ) * 97) 0 t := fun t ht hk => Or.inl (by rw [hR]; exact rk_lt hw hk)
    refine tabO_of hw (fun s hs hk => (g2 s hs hk (all s hs hk)).1) (fun s hs => ?_)
    by_cases c : kep v σ e s = true
    · rw [if_pos c]; exact (g2 s hs c (all s hs c)).2
    · rw [if_neg c]; exact g3 s hs (fun q => c q.1)
  | succ r ih =>
    intro m a O P hs hm hI
    unfold wp_X6_knows_L50
    rw [nI_add, nI_ltI (by omega) (by omega)]
    refine ⟨fun h => absurd h (by omega), fun _ => ⟨98, kn_L65 h1 h3 hw hT hm (by omega) (by omega) ?_ 97 0 a O P (by omega) hI⟩⟩
    intro a' c O' P' hI'
    rw [nI_1]
    exact ih (m + 1) a' O' P' (by omega) (by omega) hI'
theorem kn_L19 {n : Nat} {K : Int32 → (Nat → Int32) → Prop} (hn : n ≤ 1160) (hK : ∀ w P, (∀ s, s < 2 * n → P s = -9) → K w P) :
    ∀ (r s : Nat) (P : Nat → Int32), s + r = 2 * n → (∀ t, t < s → P t = -9) → wp_X6_knows_L19 (nI n) K (r + 1) (nI s) P := by
  intro r
  induction r with
  | zero =>
    intro s P hs hP
    unfold wp_X6_knows_L19
    have e : s = 2 * n := by omega
    subst e
    rw [two_nI]
    exact ⟨fun _ => hK _ _ hP, fun h => absurd (nI_le (Nat.le_refl _) (by omega)) h⟩
  | succ r ih =>
    intro s P hs hP
    unfold wp_X6_knows_L19
    rw [two_nI, nI_clamp (n := s) (by omega), nI_1]
    refine ⟨fun h => absurd h (nI_ge (by omega) (by omega)), fun _ => ⟨vp_in_nI (by omega) (by decide), ih (s + 1) _ (by omega) (fun t ht => ?_)⟩⟩
    by_cases c : t = s
    · subst c; exact pk_us
    · rw [pk_un c]; exact hP t (by omega)
theorem ordInv_0 {v e : Nat} {σ : Nat → Nat → Int32} {O P : Nat → Int32} (hP : ∀ s, s < 2 * nPr v → P s = -9) : ordInv v σ e ((lst v σ - lst v σ) * 97) 0 0 O P := by
  rw [Nat.sub_self, Nat.zero_mul]
  refine ⟨?_, fun t ht hk hb => ?_, fun t ht _ => hP t ht⟩
  · unfold cnV; rw [cn_0, nI_0]
  · unfold bef at hb; omega
