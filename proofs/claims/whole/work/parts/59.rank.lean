/-! LEVEL 2: the class's ranking -/
theorem fill_L5 {p : Int32} {N : Nat} {K : Int32 → (Nat → Int32) → Prop} (hN : N ≤ 100000) (hK : ∀ w R, (∀ j, j < N → R j = p) → K w R) :
    ∀ (r i : Nat) (R : Nat → Int32), i + r = N → (∀ j, j < i → R j = p) → wp_J7_fill_53178_L5 p N (nI N) K (r + 1) (nI i) R := by
  intro r
  induction r with
  | zero =>
    intro i R hi hR
    unfold wp_J7_fill_53178_L5
    have e : i = N := by omega
    subst e
    exact ⟨fun _ => hK _ _ hR, fun h => absurd (nI_le (Nat.le_refl _) (by omega)) h⟩
  | succ r ih =>
    intro i R hi hR
    unfold wp_J7_fill_53178_L5
    rw [nI_clamp (n := i) (by omega), nI_1]
    refine ⟨fun h => absurd h (nI_ge (by omega) (by omega)), fun _ => ⟨vp_in_nI (by omega) (by omega), ih (i + 1) _ (by omega) (fun j hj => ?_)⟩⟩
    by_cases c : j = i
    · subst c; exact pk_us
    · rw [pk_un c]; exact hR j (by omega)
theorem s_fill {p : Int32} {N : Nat} {R : Nat → Int32} {Q : (Nat → Int32) → Prop} (hN : N ≤ 100000) (h : ∀ R', (∀ j, j < N → R' j = p) → Q R') : wp_J7_fill_53178 p N R Q := by
  unfold wp_J7_fill_53178
  intro x hx
  rw [hx]
  exact ⟨N + 1, fill_L5 hN (fun w R' hR => h R' hR) N 0 R (by omega) (fun j hj => absurd hj (by omega))⟩
theorem look_L3 {N nq : Nat} {x y z : Int32} {X Y Z : Nat → Int32} {K : Int32 → (Nat → Int32) → Prop} (hN : N ≤ 145) (hq : N ≤ nq) (hq2 : nq ≤ 100000) (hT : tabP N X Y Z) (hK : ∀ w W, (∀ k, k < N → W k = ps k x y z) → K w W) :
    ∀ (r k : Nat) (W : Nat → Int32), k + r = N → (∀ j, j < k → W j = ps j x y z) → wp_X1_lookAlong_L3 x y z nq (nI N) X Y Z K (r + 1) (nI k) W := by
  intro r
  induction r with
  | zero =>
    intro k W hk hW
    unfold wp_X1_lookAlong_L3
    have e : k = N := by omega
    subst e
    exact ⟨fun _ => hK _ _ hW, fun h => absurd (nI_le (Nat.le_refl _) (by omega)) h⟩
  | succ r ih =>
    intro k W hk hW
    unfold wp_X1_lookAlong_L3
    obtain ⟨t1, t2, t3⟩ := hT k (by omega)
    rw [nI_clamp (n := k) (by omega), nI_1]
    refine ⟨fun h => absurd h (nI_ge (by omega) (by omega)), fun _ => s_X2_dot (N := N) (by omega) (by omega) (s_X5_signOf ⟨vp_in_nI (by omega) (by omega), ih (k + 1) _ (by omega) (fun j hj => ?_)⟩)⟩
    by_cases c : j = k
    · subst c; rw [pk_us, t1, t2, t3]; rfl
    · rw [pk_un c]; exact hW j (by omega)
theorem s_X1_lookAlong {v np : Nat} {x y z : Int32} {X Y Z W : Nat → Int32} {Q : (Nat → Int32) → Prop} (hT : tabP (nPol v) X Y Z) (h : ∀ W', (∀ k, k < nPol v → W' k = ps k x y z) → Q W') : wp_X1_lookAlong x y z np (nPol v) (nI (nPol v)) W X Y Z Q := by
  unfold wp_X1_lookAlong
  have hn := nPol_le v
  exact ⟨nPol v + 1, look_L3 hn (Nat.le_refl _) (by omega) hT (fun w W' hW => h W' hW) (nPol v) 0 W (by omega) (fun j hj => absurd hj (by omega))⟩
theorem s_X1_seenPairSign {v k : Nat} {x y z : Int32} {A B W : Nat → Int32} {Q : Int32 → Prop} (h1 : 1 ≤ v) (h3 : v ≤ 3) (hAB : ∀ k, k < nPr v → A k = nI (pA v k) ∧ B k = nI (pB v k)) (hW : ∀ k, k < nPol v → W k = ps k x y z) (hk : k < nPr v) (h : Q (ps (pA v k) x y z * ps (pB v k) x y z)) : wp_X1_seenPairSign (nI k) (nPr v) (nPol v) A B W Q := by
  have hb := (nPr_b h1 h3).2
  have hn := nPol_le v
  obtain ⟨ha1, ha2, ha3⟩ := pAB_in hk
  unfold wp_X1_seenPairSign
  rw [nI_clamp (n := k) (by omega), (hAB k hk).1, (hAB k hk).2, nI_clamp (n := pA v k) (by omega), nI_clamp (n := pB v k) (by omega), hW _ (by omega), hW _ (by omega)]
  have i0 : vp_in (nI k) (nPr v) := vp_in_nI (by omega) (by omega)
  exact ⟨i0, vp_in_nI (by omega) (by omega), i0, vp_in_nI (by omega) (by omega), h⟩
theorem s_X1_sense {s : Nat} {Q : Int32 → Prop} (hs : s < 2 ^ 31) (h : Q (sense s)) : wp_X1_sense (nI s) Q := by
  unfold wp_X1_sense
  rw [par_0 hs]
  unfold sense at h
  refine ⟨fun c => ?_, fun c => ?_⟩
  · rw [if_pos c] at h; exact h
  · rw [if_neg c] at h; exact h
theorem s_X1_seenSign {v s : Nat} {x y z : Int32} {A B W : Nat → Int32} {Q : Int32 → Prop} (h1 : 1 ≤ v) (h3 : v ≤ 3) (hAB : ∀ k, k < nPr v → A k = nI (pA v k) ∧ B k = nI (pB v k)) (hW : ∀ k, k < nPol v → W k = ps k x y z) (hs : s < 2 * nPr v) (h : Q (sg8 v s x y z)) : wp_X1_seenSign (nI s) (nPr v) (nPol v) A B W Q := by
  have hb := (nPr_b h1 h3).2
  unfold wp_X1_seenSign
  refine s_X1_sense (by omega) ?_
  rw [sol_half (by omega)]
  refine s_X1_seenPairSign h1 h3 hAB hW (by omega) ?_
  unfold sg8 at h
  rw [Int32.mul_assoc] at h
  exact h
theorem s_X1_signAlong {v s : Nat} {x y z : Int32} {X Y Z A B : Nat → Int32} {Q : Int32 → Prop} (h1 : 1 ≤ v) (h3 : v ≤ 3) (hg : geo v X Y Z A B) (hs : s < 2 * nPr v) (h : Q (sg8 v s x y z)) : wp_X1_signAlong (nI s) x y z (nPr v) (nPol v) A B X Y Z Q := by
  have hb := (nPr_b h1 h3).2
  have hk : s / 2 < nPr v := by omega
  have hn := nPol_le v
  obtain ⟨ha1, ha2, ha3⟩ := pAB_in hk
  obtain ⟨t1, t2, t3⟩ := hg.1 (pA v (s / 2)) (by omega)
  obtain ⟨t4, t5, t6⟩ := hg.1 (pB v (s / 2)) (by omega)
  unfold wp_X1_signAlong
  rw [sol_half (by omega), nI_clamp (n := s / 2) (by omega), (hg.2 _ hk).1, (hg.2 _ hk).2]
  have i0 : vp_in (nI (s / 2)) (nPr v) := vp_in_nI (by omega) (by omega)
  refine ⟨i0, s_X2_dot (N := nPol v) (by omega) (by omega) (s_X5_signOf ⟨i0, s_X2_dot (N := nPol v) (by omega) (by omega) (s_X5_signOf (s_X1_sense (by omega) ?_))⟩)⟩
  rw [t1, t2, t3, t4, t5, t6]
  exact h
theorem tri {a b g : Int32} (ha : a = 1 ∨ a = 0 ∨ a = -1) (hb : b = 1 ∨ b = 0 ∨ b = -1) (hg : g = 1 ∨ g = -1) :
    (a * b * g = 0 → 1 * a * b = 0 ∧ ¬ 1 * a * b = -g ∧ ¬ -1 * a * b = -g) ∧ (¬ a * b * g = 0 → 0 ≤ a * b * g → ¬ 1 * a * b = 0 ∧ ¬ 1 * a * b = -g ∧ -1 * a * b = -g) ∧ (¬ 0 ≤ a * b * g → ¬ 1 * a * b = 0 ∧ 1 * a * b = -g ∧ ¬ -1 * a * b = -g) := by
  rcases ha with h | h | h <;> rcases hb with h2 | h2 | h2 <;> rcases hg with h3 | h3 <;> subst h <;> subst h2 <;> subst h3 <;> decide
theorem sg8_even (v k : Nat) (x y z : Int32) : sg8 v (2 * k) x y z = 1 * ps (pA v k) x y z * ps (pB v k) x y z := by
  unfold sg8 sense
  rw [if_pos (by omega), show 2 * k / 2 = k by omega]
theorem sg8_odd (v k : Nat) (x y z : Int32) : sg8 v (2 * k + 1) x y z = -1 * ps (pA v k) x y z * ps (pB v k) x y z := by
  unfold sg8 sense
  rw [if_neg (by omega), show (2 * k + 1) / 2 = k by omega]
/-- the class's rows behind n stations, up to a pair k one station more -/
def parC (v : Nat) (σ : Nat → Nat → Int32) (n k : Nat) (M N : Nat → Int32) : Prop := (∀ s, s < 2 * nPr v → M s = nI (misN v σ s (if s < 2 * k then n + 1 else n))) ∧ ∀ j, j < nPr v → N j = nI (nodN v σ (2 * j) (if j < k then n + 1 else n))
theorem add_L43 {v n : Nat} {σ : Nat → Nat → Int32} {A B W : Nat → Int32} {K : Int32 → (Nat → Int32) → (Nat → Int32) → Prop} (h1 : 1 ≤ v) (h3 : v ≤ 3) (hw : wfS σ) (hn : n < 24) (c0 : ¬ σ 0 n = 0) (c1 : ¬ σ 4 n = 0) (hAB : ∀ k, k < nPr v → A k = nI (pA v k) ∧ B k = nI (pB v k)) (hW : ∀ k, k < nPol v → W k = ps k (σ 1 n) (σ 2 n) (σ 3 n))
    (hK : ∀ w M N, parC v σ n (nPr v) M N → K w M N) :
    ∀ (r k : Nat) (M N : Nat → Int32), k + r = nPr v → parC v σ n k M N → wp_X3_addStation_L43 (2 * nPr v) (nPr v) (nPr v) (nPol v) A B W (σ 5 n) (σ 4 n) K (r + 1) (nI k) M N := by
  have hb := nPr_b h1 h3
  obtain ⟨ew, _⟩ := hw.w hn
  have hg : σ 4 n = 1 ∨ σ 4 n = -1 := by
    rcases (hw n hn).2.1 with h | h | h
    · exact Or.inr h
    · exact absurd h c1
    · exact Or.inl h
  have on : ∀ m : Nat, Int32.ofNat m = nI m := fun _ => rfl
  intro r
  induction r with
  | zero =>
    intro k M N hk hP
    unfold wp_X3_addStation_L43
    have e : k = nPr v := by omega
    subst e
    rw [on]
    exact ⟨fun _ => hK _ _ _ hP, fun h => absurd (nI_le (Nat.le_refl _) (by omega)) h⟩
  | succ r ih =>
    intro k M N hk hP
    have hlt : k < nPr v := by omega
    obtain ⟨t1, t2, t3⟩ := tri (sgn_3 (pX (pA v k) * σ 1 n + pY (pA v k) * σ 2 n + pZ (pA v k) * σ 3 n)) (sgn_3 (pX (pB v k) * σ 1 n + pY (pB v k) * σ 2 n + pZ (pB v k) * σ 3 n)) hg
    have e8 : at8 v σ (2 * k) n = 1 * ps (pA v k) (σ 1 n) (σ 2 n) (σ 3 n) * ps (pB v k) (σ 1 n) (σ 2 n) (σ 3 n) := sg8_even ..
    have o8 : at8 v σ (2 * k + 1) n = -1 * ps (pA v k) (σ 1 n) (σ 2 n) (σ 3 n) * ps (pB v k) (σ 1 n) (σ 2 n) (σ 3 n) := sg8_odd ..
    have d1 : 2 * nI k = nI (2 * k) := two_nI k
    have d2 : nI (2 * k) + 1 = nI (2 * k + 1) := nI_1 _
    have i0 : vp_in (nI k) (nPr v) := vp_in_nI (by omega) (by omega)
    have i1 : vp_in (nI (2 * k)) (2 * nPr v) := vp_in_nI (by omega) (by omega)
    have i2 : vp_in (nI (2 * k + 1)) (2 * nPr v) := vp_in_nI (by omega) (by omega)
    have m0 : M (2 * k) = nI (misN v σ (2 * k) n) := by have := hP.1 (2 * k) (by omega); rw [if_neg (by omega)] at this; exact this
    have m1 : M (2 * k + 1) = nI (misN v σ (2 * k + 1) n) := by have := hP.1 (2 * k + 1) (by omega); rw [if_neg (by omega)] at this; exact this
    have n0 : N k = nI (nodN v σ (2 * k) n) := by have := hP.2 k hlt; rw [if_neg (by omega)] at this; exact this
    have fin : ∀ M' N' : Nat → Int32, M' (2 * k) = nI (misN v σ (2 * k) (n + 1)) → M' (2 * k + 1) = nI (misN v σ (2 * k + 1) (n + 1)) → N' k = nI (nodN v σ (2 * k) (n + 1)) → (∀ s, s ≠ 2 * k → s ≠ 2 * k + 1 → M' s = M s) → (∀ j, j ≠ k → N' j = N j) → parC v σ n (k + 1) M' N' := by
      intro M' N' a b c d e
      refine ⟨fun s hs => ?_, fun j hj => ?_⟩
      · by_cases f : s = 2 * k
        · subst f; rw [if_pos (by omega)]; exact a
        · by_cases g : s = 2 * k + 1
          · subst g; rw [if_pos (by omega)]; exact b
          · rw [d s f g, hP.1 s hs]
            by_cases i : s < 2 * k
            · rw [if_pos i, if_pos (by omega)]
            · rw [if_neg i, if_neg (by omega)]
      · by_cases f : j = k
        · subst f; rw [if_pos (by omega)]; exact c
        · rw [e j f, hP.2 j hj]
          by_cases i : j < k
          · rw [if_pos i, if_pos (by omega)]
          · rw [if_neg i, if_neg (by omega)]
    unfold wp_X3_addStation_L43
    rw [on, d1, d2, nI_clamp (n := k) (by omega), nI_clamp (n := 2 * k) (by omega), nI_clamp (n := 2 * k + 1) (by omega), nI_1, m0, m1, n0]
    refine ⟨fun h => absurd h (nI_ge (by omega) (by omega)), fun _ => s_X1_seenPairSign h1 h3 hAB hW hlt (fun x2 e2 => ?_)⟩
    have e2' : x2 = ps (pA v k) (σ 1 n) (σ 2 n) (σ 3 n) * ps (pB v k) (σ 1 n) (σ 2 n) (σ 3 n) * σ 4 n := e2
    rw [e2']
    refine ⟨fun c => ⟨i0, fun x6 e6 => ⟨i0, ?_⟩⟩, fun c => ⟨fun d => ⟨i2, fun x3 e3 => ⟨i2, ?_⟩⟩, fun d => ⟨i1, fun x4 e4 => ⟨i1, ?_⟩⟩⟩⟩
    · obtain ⟨u1, u2, u3⟩ := t1 c
      have v1 : at8 v σ (2 * k) n = 0 := by rw [e8]; exact u1
      have v2 : ¬ at8 v σ (2 * k) n = -(σ 4 n) := by rw [e8]; exact u2
      have v3 : ¬ at8 v σ (2 * k + 1) n = -(σ 4 n) := by rw [o8]; exact u3
      refine ih (k + 1) _ _ (by omega) (fin M (upd N k x6) ?_ ?_ ?_ (fun _ _ _ => rfl) (fun j hj => pk_un hj))
      · rw [m0, misN, if_neg (by simp [agn, v2])]; rfl
      · rw [m1, misN, if_neg (by simp [agn, v3])]; rfl
      · rw [pk_us, e6, ew, nI_add, nodN, if_pos (by simp [ndl, c0, c1, v1])]
    · obtain ⟨u1, u2, u3⟩ := t2 c d
      have v1 : ¬ at8 v σ (2 * k) n = 0 := by rw [e8]; exact u1
      have v2 : ¬ at8 v σ (2 * k) n = -(σ 4 n) := by rw [e8]; exact u2
      have v3 : at8 v σ (2 * k + 1) n = -(σ 4 n) := by rw [o8]; exact u3
      refine ih (k + 1) _ _ (by omega) (fin (upd M (2 * k + 1) x3) N ?_ ?_ ?_ (fun s hs hs2 => pk_un hs2) (fun j hj => rfl))
      · rw [pk_un (by omega), m0, misN, if_neg (by simp [agn, v2])]; rfl
      · rw [pk_us, e3, ew, nI_add, misN, if_pos (by simp [agn, c0, c1, v3])]
      · rw [n0, nodN, if_neg (by simp [ndl, v1])]; rfl
    · obtain ⟨u1, u2, u3⟩ := t3 d
      have v1 : ¬ at8 v σ (2 * k) n = 0 := by rw [e8]; exact u1
      have v2 : at8 v σ (2 * k) n = -(σ 4 n) := by rw [e8]; exact u2
      have v3 : ¬ at8 v σ (2 * k + 1) n = -(σ 4 n) := by rw [o8]; exact u3
      refine ih (k + 1) _ _ (by omega) (fin (upd M (2 * k) x4) N ?_ ?_ ?_ (fun s hs hs2 => pk_un hs) (fun j hj => rfl))
      · rw [pk_us, e4, ew, nI_add, misN, if_pos (by simp [agn, c0, c1, v2])]
      · rw [pk_un (by omega), m1, misN, if_neg (by simp [agn, v3])]; rfl
      · rw [n0, nodN, if_neg (by simp [ndl, v1])]; rfl
def allC (v : Nat) (σ : Nat → Nat → Int32) (n : Nat) (M N : Nat → Int32) : Prop := (∀ s, s < 2 * nPr v → M s = nI (misN v σ s n)) ∧ ∀ j, j < nPr v → N j = nI (nodN v σ (2 * j) n)
theorem s_X3_addStation {v n : Nat} {σ : Nat → Nat → Int32} {M N X Y Z A B W : Nat → Int32} {Q : (Nat → Int32) → (Nat → Int32) → (Nat → Int32) → Prop} (h1 : 1 ≤ v) (h3 : v ≤ 3) (hw : wfS σ) (hg : geo v X Y Z A B) (hn : n < 24) (c0 : ¬ σ 0 n = 0) (c1 : ¬ σ 4 n = 0) (hM : allC v σ n M N)
    (h : ∀ M' N' W', allC v σ (n + 1) M' N' → Q M' N' W') : wp_X3_addStation (nI n) (2 * nPr v) (nPr v) (nPr v) (nPol v) M N (nI (nPol v)) A B W X Y Z (σ 1) (σ 2) (σ 3) (σ 4) (σ 5) Q := by
  have i0 : vp_in (nI n) 24 := vp_in_nI hn (by decide)
  unfold wp_X3_addStation
  rw [nI_clamp (n := n) (by omega)]
  refine ⟨i0, i0, i0, s_X1_lookAlong hg.1 (fun W' hW => ⟨i0, fun x2 e2 => ⟨i0, fun x3 e3 => ⟨nPr v + 1, ?_⟩⟩⟩)⟩
  rw [e2, e3]
  refine add_L43 h1 h3 hw hn c0 c1 hg.2 hW ?_ (nPr v) 0 M N (by omega) ?_
  · intro w M' N' hP
    refine h M' N' W' ⟨fun s hs => ?_, fun j hj => ?_⟩
    · have := hP.1 s hs; rw [if_pos hs] at this; exact this
    · have := hP.2 j hj; rw [if_pos hj] at this; exact this
  · refine ⟨fun s hs => ?_, fun j hj => ?_⟩
    · rw [if_neg (by omega)]; exact hM.1 s hs
    · rw [if_neg (by omega)]; exact hM.2 j hj
theorem s_X4_isSigned {n : Nat} {σ : Nat → Nat → Int32} {Q : Int32 → Prop} (hn : n < 24) (h1 : ¬ σ 0 n = 0 → ¬ σ 4 n = 0 → Q 1) (h0 : (σ 0 n = 0 ∨ σ 4 n = 0) → Q 0) : wp_X4_isSigned (nI n) (σ 0) (σ 4) Q := by
  have i0 : vp_in (nI n) 24 := vp_in_nI hn (by decide)
  unfold wp_X4_isSigned
  rw [nI_clamp (n := n) (by omega)]
  exact ⟨i0, fun c => h0 (Or.inl c), fun c => ⟨i0, fun d => h0 (Or.inr d), fun d => h1 c d⟩⟩
theorem ref_L18 {v : Nat} {σ : Nat → Nat → Int32} {X Y Z A B : Nat → Int32} {K : Int32 → (Nat → Int32) → (Nat → Int32) → (Nat → Int32) → Prop} (h1 : 1 ≤ v) (h3 : v ≤ 3) (hw : wfS σ) (hg : geo v X Y Z A B)
    (hK : ∀ w M N W, allC v σ 24 M N → K w M N W) :
    ∀ (r n : Nat) (M N W : Nat → Int32), n + r = 24 → allC v σ n M N → wp_X3_refresh_L18 (2 * nPr v) (nPr v) (nPr v) (nPol v) (nI (nPol v)) A B X Y Z (σ 0) (σ 1) (σ 2) (σ 3) (σ 4) (σ 5) K (r + 1) (nI n) M N W := by
  intro r
  induction r with
  | zero =>
    intro n M N W hn hM
    unfold wp_X3_refresh_L18
    have e : n = 24 := by omega
    subst e
    exact ⟨fun _ => hK _ _ _ _ hM, fun h => absurd ((le24 (by decide)).mpr (Nat.le_refl _)) h⟩
  | succ r ih =>
    intro n M N W hn hM
    have hlt : n < 24 := by omega
    unfold wp_X3_refresh_L18
    rw [nI_1]
    refine ⟨fun h => absurd ((le24 (by omega)).mp h) (by omega), fun _ => s_X4_isSigned hlt (fun c0 c1 => ?_) (fun c => ?_)⟩
    · refine ⟨fun h => absurd h (by decide), fun _ => s_X3_addStation h1 h3 hw hg hlt c0 c1 hM (fun M' N' W' hM' => ih (n + 1) M' N' W' (by omega) hM')⟩
    · refine ⟨fun _ => ih (n + 1) M N W (by omega) ⟨fun s hs => ?_, fun j hj => ?_⟩, fun h => absurd rfl h⟩
      · rw [misN, if_neg (by rcases c with c | c <;> simp [agn, c])]; exact hM.1 s hs
      · rw [nodN, if_neg (by rcases c with c | c <;> simp [ndl, c])]; exact hM.2 j hj
theorem ref_L52 {v : Nat} {σ : Nat → Nat → Int32} {M : Nat → Int32} {K : Int32 → Int32 → Prop} (h1 : 1 ≤ v) (h3 : v ≤ 3) (hw : wfS σ) (hM : ∀ s, s < 2 * nPr v → M s = nI (mis v σ s)) (hK : ∀ w, K w (nI (lst v σ))) :
    ∀ (r s : Nat), s + r = 2 * nPr v → wp_X3_refresh_L52 (2 * nPr v) M K (r + 1) (nI s) (nI (minN (mis v σ) s)) := by
  have hb := nPr_b h1 h3
  have on : ∀ m : Nat, Int32.ofNat m = nI m := fun _ => rfl
  intro r
  induction r with
  | zero =>
    intro s hs
    unfold wp_X3_refresh_L52
    have e : s = 2 * nPr v := by omega
    subst e
    rw [on]
    exact ⟨fun _ => hK _, fun h => absurd (nI_le (Nat.le_refl _) (by omega)) h⟩
  | succ r ih =>
    intro s hs
    have hm := mis_le (v := v) hw s
    have hl := minN_le96 (mis v σ) s
    unfold wp_X3_refresh_L52
    rw [on, nI_clamp (n := s) (by omega), nI_1, hM s (by omega)]
    refine ⟨fun h => absurd h (nI_ge (by omega) (by omega)), fun _ => ⟨vp_in_nI (by omega) (by omega), fun x1 e1 => ?_⟩⟩
    have e2 : x1 = nI (minN (mis v σ) (s + 1)) := by
      rw [e1, minN]
      by_cases c : mis v σ s < minN (mis v σ) s
      · rw [if_pos (nI_lt c (by omega)), Nat.min_eq_right (by omega)]
      · rw [if_neg (fun h => c ((nI_ltI (by omega) (by omega)).mp h)), Nat.min_eq_left (by omega)]
    rw [e2]
    exact ih (s + 1) (by omega)
theorem nod_even (v : Nat) (σ : Nat → Nat → Int32) (s : Nat) : ∀ n, nodN v σ s n = nodN v σ (2 * (s / 2)) n
  | 0 => rfl
  | n + 1 => by
    rw [nodN, nodN, nod_even v σ s n]
    have e : ndl v σ s n = ndl v σ (2 * (s / 2)) n := by
      unfold ndl at8
      have e2 : sg8 v (2 * (s / 2)) (σ 1 n) (σ 2 n) (σ 3 n) = 1 * ps (pA v (s / 2)) (σ 1 n) (σ 2 n) (σ 3 n) * ps (pB v (s / 2)) (σ 1 n) (σ 2 n) (σ 3 n) := sg8_even ..
      have e3 : (sg8 v s (σ 1 n) (σ 2 n) (σ 3 n) == 0) = (sg8 v (2 * (s / 2)) (σ 1 n) (σ 2 n) (σ 3 n) == 0) := by
        rw [e2]
        unfold sg8
        rcases sense_2 s with h | h <;> rw [h] <;> rcases sgn_3 (pX (pA v (s / 2)) * σ 1 n + pY (pA v (s / 2)) * σ 2 n + pZ (pA v (s / 2)) * σ 3 n) with a | a | a <;> rcases sgn_3 (pX (pB v (s / 2)) * σ 1 n + pY (pB v (s / 2)) * σ 2 n + pZ (pB v (s / 2)) * σ 3 n) with b | b | b <;> unfold ps <;> rw [a, b] <;> decide
      rw [e3]
    rw [e]
/-- what the class's misfit rows hold -/
def tabC (v : Nat) (σ : Nat → Nat → Int32) (M N : Nat → Int32) : Prop := (∀ s, s < 2 * nPr v → M s = nI (mis v σ s)) ∧ ∀ s, s < 2 * nPr v → N (s / 2) = nI (nod v σ s)
theorem tabC_of {v : Nat} {σ : Nat → Nat → Int32} {M N : Nat → Int32} (h : allC v σ 24 M N) : tabC v σ M N := by
  refine ⟨h.1, fun s hs => ?_⟩
  unfold nod
  rw [nod_even]
  exact h.2 (s / 2) (by omega)
theorem s_X3_isKept {v e s : Nat} {σ : Nat → Nat → Int32} {M N : Nat → Int32} {Q : Int32 → Prop} (h1 : 1 ≤ v) (h3 : v ≤ 3) (he : e ≤ 9) (hw : wfS σ) (hM : tabC v σ M N) (hs : s < 2 * nPr v) (hk1 : kep v σ e s = true → Q 1) (hk0 : ¬ kep v σ e s = true → Q 0) : wp_X3_isKept (nI s) (nI e) (2 * nPr v) (nPr v) M (nI (lst v σ)) Q := by
  have hb := nPr_b h1 h3
  have hm := mis_le (v := v) hw s
  have hl : lst v σ ≤ 96 := minN_le96 _ _
  unfold wp_X3_isKept
  rw [nI_clamp (n := s) (by omega), hM.1 s hs, nI_add, nI_ltI (by omega) (by omega)]
  refine ⟨vp_in_nI hs (by omega), fun c => hk0 ?_, fun c => hk1 ?_⟩
  · simp [kep]; omega
  · simp [kep]; omega
theorem s_X3_rank {v s : Nat} {σ : Nat → Nat → Int32} {M N : Nat → Int32} {Q : Int32 → Prop} (h1 : 1 ≤ v) (h3 : v ≤ 3) (hM : tabC v σ M N) (hs : s < 2 * nPr v) (h : Q (nI (rk v σ s))) : wp_X3_rank (nI s) (2 * nPr v) (nPr v) M N (nI (lst v σ)) Q := by
  have hb := nPr_b h1 h3
  have hl : lst v σ ≤ mis v σ s := minN_le _ hs
  unfold wp_X3_rank
  rw [sol_half (by omega), nI_clamp (n := s) (by omega), nI_clamp (n := s / 2) (by omega), hM.1 s hs, hM.2 s hs, pk_sub hl]
  have e97 : nI (mis v σ s - lst v σ) * 97 = nI ((mis v σ s - lst v σ) * 97) := pk_mul _ 97
  rw [e97, nI_add]
  exact ⟨vp_in_nI hs (by omega), vp_in_nI (by omega) (by omega), h⟩
theorem fb_L10 {v e : Nat} {σ : Nat → Nat → Int32} {M N : Nat → Int32} {K : Int32 → (Nat → Int32) → Prop} (h1 : 1 ≤ v) (h3 : v ≤ 3) (he : e ≤ 9) (hw : wfS σ) (hM : tabC v σ M N)
    (hK : ∀ w B, (∀ j, j < 971 → B j = nI (ct (fun t => kep v σ e t && decide (rk v σ t + 1 = j)) (2 * nPr v))) → K w B) :
    ∀ (r s : Nat) (B : Nat → Int32), s + r = 2 * nPr v → (∀ j, j < 971 → B j = nI (ct (fun t => kep v σ e t && decide (rk v σ t + 1 = j)) s)) → wp_X3_findBegins_L10 (nI e) (2 * nPr v) (nPr v) M N (nI (lst v σ)) K (r + 1) (nI s) B := by
  have hb := nPr_b h1 h3
  have on : ∀ m : Nat, Int32.ofNat m = nI m := fun _ => rfl
  intro r
  induction r with
  | zero =>
    intro s B hs hB
    unfold wp_X3_findBegins_L10
    have e : s = 2 * nPr v := by omega
    subst e
    rw [on]
    exact ⟨fun _ => hK _ _ hB, fun h => absurd (nI_le (Nat.le_refl _) (by omega)) h⟩
  | succ r ih =>
    intro s B hs hB
    have hlt : s < 2 * nPr v := by omega
    unfold wp_X3_findBegins_L10
    rw [on, nI_1]
    refine ⟨fun h => absurd h (nI_ge (by omega) (by omega)), fun _ => s_X3_isKept h1 h3 he hw hM hlt (fun c => ?_) (fun c => ?_)⟩
    · refine ⟨fun h => absurd h (by decide), fun _ => s_X3_rank h1 h3 hM hlt ?_⟩
      have hr := rk_lt (e := e) hw c
      have hr2 : rk v σ s + 1 < 971 := by
        have : (e + 1) * 97 ≤ 970 := by omega
        omega
      have i0 : vp_in (nI (rk v σ s + 1)) 971 := vp_in_nI hr2 (by decide)
      rw [nI_1, nI_clamp (n := rk v σ s + 1) (by omega)]
      refine ⟨i0, fun x3 e3 => ⟨i0, ih (s + 1) _ (by omega) (fun j hj => ?_)⟩⟩
      rw [ct]
      by_cases d : j = rk v σ s + 1
      · subst d
        rw [pk_us, e3, hB _ hr2, nI_1, if_pos (by simp [c])]
      · rw [pk_un d, hB j hj, if_neg (by simp; intro _; omega), Nat.add_zero]
    · refine ⟨fun _ => ih (s + 1) B (by omega) (fun j hj => ?_), fun h => absurd rfl h⟩
      rw [ct, if_neg (by simp [c]), Nat.add_zero]
      exact hB j hj
theorem ct_add {p q r : Nat → Bool} : ∀ {n : Nat}, (∀ k, k < n → r k = (p k || q k) ∧ ¬ (p k = true ∧ q k = true)) → ct r n = ct p n + ct q n
  | 0, _ => rfl
  | n + 1, h => by
    rw [ct, ct, ct, ct_add (n := n) (fun k hk => h k (by omega))]
    obtain ⟨h1, h2⟩ := h n (by omega)
    rw [h1]
    by_cases c : p n = true
    · have d : ¬ q n = true := fun d => h2 ⟨c, d⟩
      simp [c, d]; omega
    · by_cases d : q n = true
      · simp [c, d]; omega
      · simp [c, d]
theorem cnV_succ (v : Nat) (σ : Nat → Nat → Int32) (e j : Nat) : cnV v σ e (j + 1) 0 = ct (fun t => kep v σ e t && decide (rk v σ t + 1 = j + 1)) (2 * nPr v) + cnV v σ e j 0 := by
  unfold cnV cn
  refine ct_add (fun k hk => ⟨?_, ?_⟩)
  · by_cases c : kep v σ e k = true
    · by_cases d : rk v σ k < j
      · simp [c, d, show rk v σ k < j + 1 by omega]
      · by_cases f : rk v σ k = j
        · simp [c, f]
        · simp [c, d, f, show ¬ rk v σ k < j + 1 by omega]
    · simp [c]
  · intro ⟨a, b⟩
    simp at a b
    omega
theorem fb_L52 {v e : Nat} {σ : Nat → Nat → Int32} {B0 : Nat → Int32} {K : Int32 → (Nat → Int32) → Prop} (hb : nPr v ≤ 546) (hB0 : ∀ j, j < 971 → B0 j = nI (ct (fun t => kep v σ e t && decide (rk v σ t + 1 = j)) (2 * nPr v))) (hK : ∀ w B, (∀ j, j < 971 → B j = nI (cnV v σ e j 0)) → K w B) :
    ∀ (r i : Nat) (B : Nat → Int32), i + r = 971 → 1 ≤ i → (∀ j, j < i → B j = nI (cnV v σ e j 0)) → (∀ j, i ≤ j → B j = B0 j) → wp_X3_findBegins_L52 K (r + 1) (nI i) B := by
  have on : ∀ m : Nat, Int32.ofNat m = nI m := fun _ => rfl
  intro r
  induction r with
  | zero =>
    intro i B hi h1 hB hO
    unfold wp_X3_findBegins_L52
    have e : i = 971 := by omega
    subst e
    rw [on]
    exact ⟨fun _ => hK _ _ hB, fun h => absurd (nI_le (Nat.le_refl _) (by omega)) h⟩
  | succ r ih =>
    intro i B hi h1 hB hO
    obtain ⟨j, rfl⟩ : ∃ j, i = j + 1 := ⟨i - 1, by omega⟩
    unfold wp_X3_findBegins_L52
    rw [on, nI_pred, nI_clamp (n := j + 1) (by omega), nI_clamp (n := j) (by omega), nI_1, hO (j + 1) (Nat.le_refl _), hB0 (j + 1) (by omega), hB j (by omega)]
    have i0 : vp_in (nI (j + 1)) 971 := vp_in_nI (by omega) (by decide)
    refine ⟨fun h => absurd h (nI_ge (by omega) (by omega)), fun _ => ⟨i0, vp_in_nI (by omega) (by decide), fun x1 e1 => ⟨i0, ih (j + 1 + 1) _ (by omega) (by omega) (fun k hk => ?_) (fun k hk => ?_)⟩⟩⟩
    · by_cases d : k = j + 1
      · subst d
        rw [pk_us, e1, nI_add, cnV_succ]
      · rw [pk_un d]; exact hB k (by omega)
    · rw [pk_un (by omega)]; exact hO k (by omega)
theorem s_X3_findBegins {v e : Nat} {σ : Nat → Nat → Int32} {M N B : Nat → Int32} {k0 : Int32} {Q : Int32 → (Nat → Int32) → Prop} (h1 : 1 ≤ v) (h3 : v ≤ 3) (he : e ≤ 9) (hw : wfS σ) (hM : tabC v σ M N)
    (h : ∀ B', (∀ j, j < 971 → B' j = nI (cnV v σ e j 0)) → Q (nI (nKp v σ e)) B') : wp_X3_findBegins (nI e) (2 * nPr v) (nPr v) M N k0 (nI (lst v σ)) B Q := by
  have hb := nPr_b h1 h3
  unfold wp_X3_findBegins
  refine s_fill (by decide) (fun B1 hB1 => ⟨2 * nPr v + 1, fb_L10 h1 h3 he hw hM ?_ (2 * nPr v) 0 B1 (by omega) (fun j hj => by rw [hB1 j hj]; rfl)⟩)
  intro w B2 hB2
  refine ⟨971, fb_L52 hb.2 hB2 ?_ 970 1 B2 (by omega) (by omega) (fun j hj => ?_) (fun j hj => rfl)⟩
  · intro w B3 hB3
    have e1 : Int32.ofNat 971 - 1 = nI 970 := nI_pred 970
    rw [e1, nI_clamp (n := 970) (by omega)]
    refine ⟨vp_in_nI (by omega) (by decide), fun x2 e2 => ?_⟩
    have e3 : x2 = nI (nKp v σ e) := by
      rw [e2, hB3 970 (by omega)]
      congr 1
      unfold cnV
      rw [cn_all (fun k hk hp => Nat.lt_of_lt_of_le (rk_lt (e := e) hw hp) (by omega))]
      rfl
    rw [e3]
    exact h B3 hB3
  · have e0 : j = 0 := by omega
    subst e0
    rw [hB2 0 (by omega)]
    congr 1
    rw [show cnV v σ e 0 0 = 0 from cn_0]
    exact ct_zero (fun k hk => by simp)
def plI (v : Nat) (σ : Nat → Nat → Int32) (e s : Nat) (O P B : Nat → Int32) : Prop := (∀ j, j < 971 → B j = nI (cnV v σ e j s)) ∧ (∀ t, t < s → kep v σ e t = true → O (plc v σ e t) = nI t) ∧ ∀ t, t < s → P t = if kep v σ e t = true then nI (plc v σ e t) else -9
theorem pk_L2 {v e : Nat} {σ : Nat → Nat → Int32} {M N : Nat → Int32} {K : Int32 → (Nat → Int32) → (Nat → Int32) → (Nat → Int32) → Prop} (h1 : 1 ≤ v) (h3 : v ≤ 3) (he : e ≤ 9) (hw : wfS σ) (hM : tabC v σ M N)
    (hK : ∀ w O P B, tabO v σ e O P → K w O P B) :
    ∀ (r s : Nat) (O P B : Nat → Int32), s + r = 2 * nPr v → plI v σ e s O P B → wp_X3_placeKept_L2 (nI e) (2 * nPr v) (nPr v) M N (nI (lst v σ)) K (r + 1) (nI s) O P B := by
  have hb := nPr_b h1 h3
  have hkl : nKp v σ e ≤ 2 * nPr v := ct_le _ _
  have on : ∀ m : Nat, Int32.ofNat m = nI m := fun _ => rfl
  intro r
  induction r with
  | zero =>
    intro s O P B hs hI
    unfold wp_X3_placeKept_L2
    have e : s = 2 * nPr v := by omega
    subst e
    rw [on]
    exact ⟨fun _ => hK _ _ _ _ (tabO_of hw hI.2.1 hI.2.2), fun h => absurd (nI_le (Nat.le_refl _) (by omega)) h⟩
  | succ r ih =>
    intro s O P B hs hI
    obtain ⟨g1, g2, g3⟩ := hI
    have hlt : s < 2 * nPr v := by omega
    have i0 : vp_in (nI s) (2 * nPr v) := vp_in_nI hlt (by omega)
    unfold wp_X3_placeKept_L2
    rw [on, nI_1, nI_clamp (n := s) (by omega)]
    refine ⟨fun h => absurd h (nI_ge (by omega) (by omega)), fun _ => s_X3_isKept h1 h3 he hw hM hlt (fun c => ?_) (fun c => ?_)⟩
    · refine ⟨fun h => absurd h (by decide), fun _ => s_X3_rank h1 h3 hM hlt ?_⟩
      have hr := rk_lt (e := e) hw c
      have hr2 : rk v σ s < 971 := by
        have : (e + 1) * 97 ≤ 970 := by omega
        omega
      have i1 : vp_in (nI (rk v σ s)) 971 := vp_in_nI hr2 (by decide)
      have ep : cnV v σ e (rk v σ s) s = plc v σ e s := rfl
      have hpl : plc v σ e s < nKp v σ e := pl_in hlt c
      rw [nI_clamp (n := rk v σ s) (by omega), g1 _ hr2, ep]
      refine ⟨i1, fun x3 e3 => ⟨i1, fun x4 e4 => ?_⟩⟩
      rw [e4, nI_clamp (n := plc v σ e s) (by omega)]
      refine ⟨vp_in_nI (by omega) (by omega), i0, ih (s + 1) _ _ _ (by omega) ⟨fun j hj => ?_, fun t ht hk => ?_, fun t ht => ?_⟩⟩
      · unfold cnV
        rw [cn_step hlt]
        by_cases d : j = rk v σ s
        · subst d
          rw [pk_us, e3, nI_1, if_pos ⟨c, rfl⟩]; rfl
        · rw [pk_un d, g1 j hj, if_neg (fun q => d q.2.symm)]; rfl
      · by_cases d : t = s
        · subst d; exact pk_us
        · have hne : plc v σ e t ≠ plc v σ e s := pl_ne (by omega) hlt hk c d
          rw [pk_un hne]
          exact g2 t (by omega) hk
      · by_cases d : t = s
        · subst d; rw [pk_us, if_pos c]
        · rw [pk_un d]; exact g3 t (by omega)
    · refine ⟨fun _ => ⟨i0, ih (s + 1) _ _ _ (by omega) ⟨fun j hj => ?_, fun t ht hk => ?_, fun t ht => ?_⟩⟩, fun h => absurd rfl h⟩
      · unfold cnV
        rw [cn_step hlt, if_neg (fun q => c q.1)]
        exact g1 j hj
      · have d : t ≠ s := fun d => by subst d; exact c hk
        exact g2 t (by omega) hk
      · by_cases d : t = s
        · subst d; rw [pk_us, if_neg c]
        · rw [pk_un d]; exact g3 t (by omega)
theorem s_X3_refresh {v e : Nat} {σ : Nat → Nat → Int32} {M N O P B X Y Z A C W : Nat → Int32} {k0 l0 : Int32} {Q : (Nat → Int32) → (Nat → Int32) → (Nat → Int32) → (Nat → Int32) → Int32 → Int32 → (Nat → Int32) → (Nat → Int32) → Prop} (h1 : 1 ≤ v) (h3 : v ≤ 3) (he : e ≤ 9) (hw : wfS σ) (hg : geo v X Y Z A C)
    (h : ∀ M' N' O' P' B' W', tabC v σ M' N' → tabO v σ e O' P' → Q M' N' O' P' (nI (nKp v σ e)) (nI (lst v σ)) B' W') : wp_X3_refresh (nI e) (2 * nPr v) (nPr v) (nPr v) (nPol v) M N O P k0 l0 B (nI (nPol v)) A C W X Y Z (σ 0) (σ 1) (σ 2) (σ 3) (σ 4) (σ 5) Q := by
  have hb := nPr_b h1 h3
  unfold wp_X3_refresh
  refine s_fill (by omega) (fun M1 hM1 => s_fill (by omega) (fun N1 hN1 => ⟨25, ref_L18 h1 h3 hw hg ?_ 24 0 M1 N1 W (by omega) ⟨fun s hs => hM1 s hs, fun j hj => hN1 j hj⟩⟩))
  intro w M2 N2 W2 hA
  have hC := tabC_of hA
  refine ⟨2 * nPr v + 1, ref_L52 h1 h3 hw hC.1 ?_ (2 * nPr v) 0 (by omega)⟩
  intro w
  refine s_X3_findBegins h1 h3 he hw hC (fun B1 hB1 => ?_)
  unfold wp_X3_placeKept
  refine ⟨2 * nPr v + 1, pk_L2 h1 h3 he hw hC (fun w O1 P1 B2 hO => h M2 N2 O1 P1 B2 W2 hC hO) (2 * nPr v) 0 O P B1 (by omega) ⟨hB1, fun t ht => absurd ht (by omega), fun t ht => absurd ht (by omega)⟩⟩
