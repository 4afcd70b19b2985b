/-! LEVEL 2: the pairs -/
def pI (k : Nat) : Int × Int × Int := pTab.getD k (0, 0, 0)
theorem pTab_b : ∀ t ∈ pTab, (-3 ≤ t.1 ∧ t.1 ≤ 3) ∧ (-3 ≤ t.2.1 ∧ t.2.1 ≤ 3) ∧ (-3 ≤ t.2.2 ∧ t.2.2 ≤ 3) := by decide +kernel
theorem pI_b (k : Nat) : (-3 ≤ (pI k).1 ∧ (pI k).1 ≤ 3) ∧ (-3 ≤ (pI k).2.1 ∧ (pI k).2.1 ≤ 3) ∧ (-3 ≤ (pI k).2.2 ∧ (pI k).2.2 ≤ 3) := by
  unfold pI
  by_cases h : k < pTab.length
  · rw [List.getD_eq_getElem?_getD, List.getElem?_eq_getElem h]
    exact pTab_b _ (List.getElem_mem h)
  · rw [List.getD_eq_getElem?_getD, List.getElem?_eq_none (by omega)]
    decide
theorem pX_I (k : Nat) : pX k = Int32.ofInt (pI k).1 := rfl
theorem pY_I (k : Nat) : pY k = Int32.ofInt (pI k).2.1 := rfl
theorem pZ_I (k : Nat) : pZ k = Int32.ofInt (pI k).2.2 := rfl
def dtI (a b : Nat) : Int := (pI a).1 * (pI b).1 + (pI a).2.1 * (pI b).2.1 + (pI a).2.2 * (pI b).2.2
def dot0 (a b : Nat) : Bool := decide (dtI a b = 0)
theorem mul_b3 {a b : Int} (ha : -3 ≤ a ∧ a ≤ 3) (hb : -3 ≤ b ∧ b ≤ 3) : -9 ≤ a * b ∧ a * b ≤ 9 := by
  have : a = -3 ∨ a = -2 ∨ a = -1 ∨ a = 0 ∨ a = 1 ∨ a = 2 ∨ a = 3 := by omega
  rcases this with h | h | h | h | h | h | h <;> subst h <;> omega
theorem dot_iff (a b : Nat) : pX a * pX b + pY a * pY b + pZ a * pZ b = 0 ↔ dot0 a b = true := by
  have h1 := pI_b a
  have h2 := pI_b b
  have m1 := mul_b3 h1.1 h2.1
  have m2 := mul_b3 h1.2.1 h2.2.1
  have m3 := mul_b3 h1.2.2 h2.2.2
  rw [pX_I, pX_I, pY_I, pY_I, pZ_I, pZ_I, ← Int32.ofInt_mul, ← Int32.ofInt_mul, ← Int32.ofInt_mul, ← Int32.ofInt_add, ← Int32.ofInt_add, I0, eqI (by omega) (by omega)]
  unfold dot0 dtI
  simp
def prow (a : Nat) : Nat → Nat → List (Nat × Nat)
  | _, 0 => []
  | b, r + 1 => (if dot0 a b then [(a, b)] else []) ++ prow a (b + 1) r
def pall (N : Nat) : Nat → Nat → List (Nat × Nat)
  | _, 0 => []
  | a, r + 1 => prow a (a + 1) (N - (a + 1)) ++ pall N (a + 1) r
def pairL (v : Nat) : List (Nat × Nat) := pall (nPol v) 0 (nPol v)
def nPr (v : Nat) : Nat := (pairL v).length
theorem nPr_1 : nPr 1 = 24 := by decide +kernel
theorem nPr_2 : nPr 2 = 138 := by decide +kernel
theorem nPr_3 : nPr 3 = 546 := by decide +kernel
theorem nPr_b {v : Nat} (h1 : 1 ≤ v) (h3 : v ≤ 3) : 0 < nPr v ∧ nPr v ≤ 546 := by
  have : v = 1 ∨ v = 2 ∨ v = 3 := by omega
  rcases this with h | h | h <;> subst h
  · rw [nPr_1]; omega
  · rw [nPr_2]; omega
  · rw [nPr_3]; omega
theorem prow_in {a : Nat} : ∀ {r b : Nat} {t : Nat × Nat}, t ∈ prow a b r → t.1 = a ∧ b ≤ t.2 ∧ t.2 < b + r ∧ dot0 t.1 t.2 = true
  | 0, b, t, h => by simp [prow] at h
  | r + 1, b, t, h => by
    rw [prow, List.mem_append] at h
    rcases h with h | h
    · by_cases c : dot0 a b = true
      · rw [if_pos c] at h
        simp at h
        subst h
        exact ⟨rfl, Nat.le_refl _, by show b < b + (r + 1); omega, c⟩
      · rw [if_neg c] at h; simp at h
    · obtain ⟨h1, h2, h3, h4⟩ := prow_in h
      exact ⟨h1, by omega, by omega, h4⟩
theorem pall_in {N : Nat} : ∀ {r a : Nat} {t : Nat × Nat}, t ∈ pall N a r → a ≤ t.1 ∧ t.1 < t.2 ∧ t.2 < N ∧ dot0 t.1 t.2 = true
  | 0, a, t, h => by simp [pall] at h
  | r + 1, a, t, h => by
    rw [pall, List.mem_append] at h
    rcases h with h | h
    · obtain ⟨h1, h2, h3, h4⟩ := prow_in h
      exact ⟨by omega, by omega, by omega, h4⟩
    · obtain ⟨h1, h2, h3, h4⟩ := pall_in h
      exact ⟨by omega, h2, h3, h4⟩
/-- the pair's poles -/
def pA (v k : Nat) : Nat := ((pairL v).getD k (0, 0)).1
def pB (v k : Nat) : Nat := ((pairL v).getD k (0, 0)).2
theorem pAB_in {v k : Nat} (hk : k < nPr v) : pA v k < pB v k ∧ pB v k < nPol v ∧ dot0 (pA v k) (pB v k) = true := by
  have hm : (pairL v).getD k (0, 0) ∈ pairL v := by
    rw [List.getD_eq_getElem?_getD, List.getElem?_eq_getElem hk]
    exact List.getElem_mem hk
  obtain ⟨_, h2, h3, h4⟩ := pall_in hm
  exact ⟨h2, h3, h4⟩
def hold2 (l : List (Nat × Nat)) (c : Int32) (A B : Nat → Int32) : Prop := c = nI l.length ∧ ∀ (i : Nat) (t : Nat × Nat), l[i]? = some t → A i = nI t.1 ∧ B i = nI t.2
theorem hold2_push {l : List (Nat × Nat)} {c : Int32} {A B : Nat → Int32} (h : hold2 l c A B) (hl : l.length < 2 ^ 31) (a b : Nat) : hold2 (l ++ [(a, b)]) (c + 1) (upd A c.toNatClampNeg (nI a)) (upd B c.toNatClampNeg (nI b)) := by
  obtain ⟨h1, h2⟩ := h
  subst h1
  rw [nI_clamp hl]
  refine ⟨by rw [nI_1, List.length_append]; rfl, fun i t ht => ?_⟩
  by_cases c : i = l.length
  · subst c
    rw [List.getElem?_append_right (Nat.le_refl _)] at ht
    simp at ht
    subst ht
    exact ⟨pk_us, pk_us⟩
  · have hi : i < (l ++ [(a, b)]).length := (List.getElem?_eq_some_iff.mp ht).1
    rw [List.length_append] at hi
    have hi2 : i < l.length := by simp at hi; omega
    rw [List.getElem?_append_left hi2] at ht
    rw [pk_un c, pk_un c]
    exact h2 i t ht
theorem hold2_tab {v : Nat} {c : Int32} {A B : Nat → Int32} (h : hold2 (pairL v) c A B) : c = nI (nPr v) ∧ ∀ k, k < nPr v → A k = nI (pA v k) ∧ B k = nI (pB v k) := by
  refine ⟨h.1, fun k hk => ?_⟩
  have := h.2 k ((pairL v)[k]) (List.getElem?_eq_getElem hk)
  unfold pA pB
  rw [List.getD_eq_getElem?_getD, List.getElem?_eq_getElem hk]
  exact this
/-- what the pole rows hold up to N -/
def tabP (N : Nat) (X Y Z : Nat → Int32) : Prop := ∀ k, k < N → X k = pX k ∧ Y k = pY k ∧ Z k = pZ k
theorem tabP.dot {N : Nat} {X Y Z : Nat → Int32} (h : tabP N X Y Z) {a b : Nat} (ha : a < N) (hb : b < N) : X a * X b + Y a * Y b + Z a * Z b = 0 ↔ dot0 a b = true := by
  obtain ⟨h1, h2, h3⟩ := h a ha
  obtain ⟨h4, h5, h6⟩ := h b hb
  rw [h1, h2, h3, h4, h5, h6]
  exact dot_iff a b
theorem m_L60 {N a : Nat} {X Y Z : Nat → Int32} {K : Int32 → Int32 → (Nat → Int32) → (Nat → Int32) → Prop} (hN : N ≤ 145) (hT : tabP N X Y Z) (ha : a < N) :
    ∀ (r b : Nat) (l : List (Nat × Nat)) (c : Int32) (A B : Nat → Int32), b + r = N → hold2 l c A B → l.length + (prow a b r).length ≤ 1160 →
      (∀ w c' A' B', hold2 (l ++ prow a b r) c' A' B' → K w c' A' B') → wp_X6_makePoles_L60 (nI N) X Y Z (nI a) K (r + 1) (nI b) c A B := by
  intro r
  induction r with
  | zero =>
    intro b l c A B hb hl hn hk
    unfold wp_X6_makePoles_L60
    refine ⟨fun _ => hk _ _ _ _ (by simpa [prow] using hl), fun h => absurd (nI_le (by omega) (by omega)) h⟩
  | succ r ih =>
    intro b l c A B hb hl hn hk
    unfold wp_X6_makePoles_L60
    have i1 : vp_in (nI a) 145 := vp_in_nI (by omega) (by decide)
    have i2 : vp_in (nI b) 145 := vp_in_nI (by omega) (by decide)
    refine ⟨fun h => absurd h (nI_ge (by omega) (by omega)), fun _ => ⟨i1, i2, i1, i2, i1, i2, ?_⟩⟩
    rw [nI_clamp (n := a) (by omega), nI_clamp (n := b) (by omega), hT.dot ha (by omega)]
    refine ⟨fun c1 => ?_, fun c1 => ?_⟩
    · simp only [prow, c1, if_true] at hn hk
      have hn' : l.length + 1 + (prow a (b + 1) r).length ≤ 1160 := by simp at hn; omega
      have hin : vp_in c 1160 := by rw [hl.1]; exact vp_in_nI (by omega) (by decide)
      refine ⟨hin, hin, fun x hx => ?_⟩
      rw [hx, nI_1]
      refine ih (b + 1) (l ++ [(a, b)]) _ _ _ (by omega) (hold2_push hl (by omega) a b) (by simp; omega) ?_
      intro w c' A' B' h'
      exact hk w c' A' B' (by simpa using h')
    · simp only [prow, c1] at hn hk
      rw [nI_1]
      exact ih (b + 1) l c A B (by omega) hl (by simpa using hn) (by simpa using hk)
theorem m_L48 {N : Nat} {X Y Z : Nat → Int32} {K : Int32 → Int32 → (Nat → Int32) → (Nat → Int32) → Prop} (hN : N ≤ 145) (hT : tabP N X Y Z) :
    ∀ (r a : Nat) (l : List (Nat × Nat)) (c : Int32) (A B : Nat → Int32), a + r = N → hold2 l c A B → l.length + (pall N a r).length ≤ 1160 →
      (∀ w c' A' B', hold2 (l ++ pall N a r) c' A' B' → K w c' A' B') → wp_X6_makePoles_L48 (nI N) X Y Z K (r + 1) (nI a) c A B := by
  intro r
  induction r with
  | zero =>
    intro b l c A B hb hl hn hk
    unfold wp_X6_makePoles_L48
    refine ⟨fun _ => hk _ _ _ _ (by simpa [pall] using hl), fun h => absurd (nI_le (by omega) (by omega)) h⟩
  | succ r ih =>
    intro a l c A B hb hl hn hk
    simp only [pall] at hn hk
    have hn' : l.length + (prow a (a + 1) (N - (a + 1))).length + (pall N (a + 1) r).length ≤ 1160 := by rw [List.length_append] at hn; omega
    unfold wp_X6_makePoles_L48
    refine ⟨fun h => absurd h (nI_ge (by omega) (by omega)), fun _ x hx => ?_⟩
    rw [hx, nI_1]
    refine ⟨N - (a + 1) + 1, m_L60 hN hT (by omega) (N - (a + 1)) (a + 1) l c A B (by omega) hl (by omega) ?_⟩
    intro w c' A' B' h'
    refine ih (a + 1) _ _ _ _ (by omega) h' (by rw [List.length_append]; omega) ?_
    intro w c' A' B' h'
    exact hk w c' A' B' (by simpa using h')
theorem s_X6_makePoles {v : Nat} {c0 : Int32} {X Y Z : Nat → Int32} {n0 : Int32} {A B : Nat → Int32} {kn : Int32} {Q : Int32 → (Nat → Int32) → (Nat → Int32) → (Nat → Int32) → Int32 → (Nat → Int32) → (Nat → Int32) → Int32 → Prop} (h1 : 1 ≤ v) (h3 : v ≤ 3)
    (h : ∀ X' Y' Z' A' B', tabP (nPol v) X' Y' Z' → (∀ k, k < nPr v → A' k = nI (pA v k) ∧ B' k = nI (pB v k)) → Q (nI (nPol v)) X' Y' Z' (nI (nPr v)) A' B' 0) : wp_X6_makePoles (nI v) c0 X Y Z n0 A B kn Q := by
  unfold wp_X6_makePoles
  refine ⟨v + 1, m_L7 h3 v 1 [] 0 X Y Z (by omega) (by omega) hold3_0 ?_ ?_⟩
  · rw [mos_v h1 h3, List.length_take, pTab_len]
    have := nPol_le v
    simp
    omega
  · rw [List.nil_append, mos_v h1 h3]
    intro w c' X' Y' Z' h'
    obtain ⟨hc, hT⟩ := hold3_tab (nPol_le v) h'
    rw [hc]
    refine ⟨nPol v + 1, m_L48 (nPol_le v) hT (nPol v) 0 [] 0 A B (by omega) ⟨nI_0.symm, fun i t h => by simp at h⟩ ?_ ?_⟩
    · have := (nPr_b h1 h3).2
      unfold nPr pairL at this
      simp
      omega
    · rw [List.nil_append]
      intro w c' A' B' h'
      obtain ⟨hc2, hT2⟩ := hold2_tab h'
      rw [hc2]
      exact h _ _ _ _ _ hT hT2
/-! the class's -/
theorem s_X2_dot {N k : Nat} {x y z : Int32} {X Y Z : Nat → Int32} {Q : Int32 → Prop} (hk : k < N) (hN : N ≤ 171) (h : Q (X k * x + Y k * y + Z k * z)) : wp_X2_dot (nI k) x y z X Y Z Q := by
  unfold wp_X2_dot
  have i1 : vp_in (nI k) 171 := vp_in_nI (by omega) (by decide)
  rw [nI_clamp (by omega)]
  exact ⟨i1, i1, i1, h⟩
theorem s_X2_areSquare {N a b : Nat} {X Y Z : Nat → Int32} {Q : Int32 → Prop} (hN : N ≤ 145) (hT : tabP N X Y Z) (ha : a < N) (hb : b < N) (h1 : dot0 a b = true → Q 1) (h0 : ¬ dot0 a b = true → Q 0) : wp_X2_areSquare (nI a) (nI b) X Y Z Q := by
  unfold wp_X2_areSquare
  have i1 : vp_in (nI b) 171 := vp_in_nI (by omega) (by decide)
  refine ⟨i1, i1, i1, s_X2_dot ha (by omega) ?_⟩
  rw [nI_clamp (n := b) (by omega), hT.dot ha hb]
  exact ⟨h1, h0⟩
theorem c_L14 {N a : Nat} {X Y Z : Nat → Int32} {K : Int32 → Int32 → Prop} (hN : N ≤ 145) (hT : tabP N X Y Z) (ha : a < N) :
    ∀ (r b n : Nat), b + r = N → (∀ w, K (nI (n + (prow a b r).length)) w) → wp_X1_countPairs_L14 (nI N) X Y Z (nI a) K (r + 1) (nI n) (nI b) := by
  intro r
  induction r with
  | zero =>
    intro b n hb hk
    unfold wp_X1_countPairs_L14
    refine ⟨fun _ => by simpa [prow] using hk _, fun h => absurd (nI_le (by omega) (by omega)) h⟩
  | succ r ih =>
    intro b n hb hk
    unfold wp_X1_countPairs_L14
    refine ⟨fun h => absurd h (nI_ge (by omega) (by omega)), fun _ => s_X2_areSquare hN hT ha (by omega) (fun c1 => ?_) (fun c1 => ?_)⟩
    · refine ⟨fun h => absurd h (by decide), fun _ => ?_⟩
      simp only [prow, c1, if_true] at hk
      rw [nI_1, nI_1]
      exact ih (b + 1) (n + 1) (by omega) (fun w => by have := hk w; simp at this; rw [show n + 1 + (prow a (b + 1) r).length = n + ((prow a (b + 1) r).length + 1) by omega]; exact this)
    · refine ⟨fun _ => ?_, fun h => absurd rfl h⟩
      simp only [prow, c1] at hk
      rw [nI_1]
      exact ih (b + 1) n (by omega) (by simpa using hk)
theorem c_L4 {N : Nat} {X Y Z : Nat → Int32} {K : Int32 → Int32 → Prop} (hN : N ≤ 145) (hT : tabP N X Y Z) :
    ∀ (r a n : Nat), a + r = N → (∀ w, K (nI (n + (pall N a r).length)) w) → wp_X1_countPairs_L4 (nI N) X Y Z K (r + 1) (nI n) (nI a) := by
  intro r
  induction r with
  | zero =>
    intro b n hb hk
    unfold wp_X1_countPairs_L4
    refine ⟨fun _ => by simpa [pall] using hk _, fun h => absurd (nI_le (by omega) (by omega)) h⟩
  | succ r ih =>
    intro a n hb hk
    simp only [pall] at hk
    unfold wp_X1_countPairs_L4
    refine ⟨fun h => absurd h (nI_ge (by omega) (by omega)), fun _ x hx => ?_⟩
    rw [hx, nI_1]
    refine ⟨N - (a + 1) + 1, c_L14 hN hT (by omega) (N - (a + 1)) (a + 1) n (by omega) (fun w => ?_)⟩
    refine ih (a + 1) _ (by omega) (fun w => ?_)
    have := hk w
    rw [List.length_append] at this
    rw [show n + (prow a (a + 1) (N - (a + 1))).length + (pall N (a + 1) r).length = n + ((prow a (a + 1) (N - (a + 1))).length + (pall N (a + 1) r).length) by omega]
    exact this
theorem s_X1_countPairs {v : Nat} {X Y Z : Nat → Int32} {Q : Int32 → Prop} (hT : tabP (nPol v) X Y Z) (h : Q (nI (nPr v))) : wp_X1_countPairs (nI (nPol v)) X Y Z Q := by
  unfold wp_X1_countPairs
  refine ⟨nPol v + 1, c_L4 (nPol_le v) hT (nPol v) 0 0 (by omega) (fun w => ?_)⟩
  rw [Nat.zero_add]
  exact h
theorem c_L16 {N M a : Nat} {X Y Z : Nat → Int32} {K : Int32 → Int32 → (Nat → Int32) → (Nat → Int32) → Prop} (hN : N ≤ 145) (hM : M ≤ 1160) (hT : tabP N X Y Z) (ha : a < N) :
    ∀ (r b : Nat) (l : List (Nat × Nat)) (c : Int32) (A B : Nat → Int32), b + r = N → hold2 l c A B → l.length + (prow a b r).length ≤ M →
      (∀ c' w A' B', hold2 (l ++ prow a b r) c' A' B' → K c' w A' B') → wp_X1_fillPairs_L16 M (nI N) (nI M) X Y Z (nI a) K (r + 1) c (nI b) A B := by
  intro r
  induction r with
  | zero =>
    intro b l c A B hb hl hn hk
    unfold wp_X1_fillPairs_L16
    refine ⟨fun _ => hk _ _ _ _ (by simpa [prow] using hl), fun h => absurd (nI_le (by omega) (by omega)) h⟩
  | succ r ih =>
    intro b l c A B hb hl hn hk
    unfold wp_X1_fillPairs_L16
    refine ⟨fun h => absurd h (nI_ge (by omega) (by omega)), fun _ => s_X2_areSquare hN hT ha (by omega) (fun c1 => ?_) (fun c1 => ?_)⟩
    · refine ⟨fun h => absurd h (by decide), fun _ => ?_⟩
      simp only [prow, c1, if_true] at hn hk
      have hn' : l.length + 1 + (prow a (b + 1) r).length ≤ M := by simp at hn; omega
      have hin : vp_in c M := by rw [hl.1]; exact vp_in_nI (by omega) (by omega)
      refine ⟨fun h => absurd (by rw [hl.1] at h; exact h) (nI_ge (by omega) (by omega)), fun _ => ⟨hin, hin, ?_⟩⟩
      rw [nI_1]
      refine ih (b + 1) (l ++ [(a, b)]) _ _ _ (by omega) (hold2_push hl (by omega) a b) (by simp; omega) ?_
      intro w c' A' B' h'
      exact hk w c' A' B' (by simpa using h')
    · refine ⟨fun _ => ?_, fun h => absurd rfl h⟩
      simp only [prow, c1] at hn hk
      rw [nI_1]
      exact ih (b + 1) l c A B (by omega) hl (by simpa using hn) (by simpa using hk)
theorem c_L4f {N M : Nat} {X Y Z : Nat → Int32} {K : Int32 → Int32 → (Nat → Int32) → (Nat → Int32) → Prop} (hN : N ≤ 145) (hM : M ≤ 1160) (hT : tabP N X Y Z) :
    ∀ (r a : Nat) (l : List (Nat × Nat)) (c : Int32) (A B : Nat → Int32), a + r = N → hold2 l c A B → l.length + (pall N a r).length ≤ M →
      (∀ c' w A' B', hold2 (l ++ pall N a r) c' A' B' → K c' w A' B') → wp_X1_fillPairs_L4 M (nI N) (nI M) X Y Z K (r + 1) c (nI a) A B := by
  intro r
  induction r with
  | zero =>
    intro b l c A B hb hl hn hk
    unfold wp_X1_fillPairs_L4
    refine ⟨fun _ => hk _ _ _ _ (by simpa [pall] using hl), fun h => absurd (nI_le (by omega) (by omega)) h⟩
  | succ r ih =>
    intro a l c A B hb hl hn hk
    simp only [pall] at hn hk
    have hn' : l.length + (prow a (a + 1) (N - (a + 1))).length + (pall N (a + 1) r).length ≤ M := by rw [List.length_append] at hn; omega
    unfold wp_X1_fillPairs_L4
    refine ⟨fun h => absurd h (nI_ge (by omega) (by omega)), fun _ x hx => ?_⟩
    rw [hx, nI_1]
    refine ⟨N - (a + 1) + 1, c_L16 hN hM hT (by omega) (N - (a + 1)) (a + 1) l c A B (by omega) hl (by omega) ?_⟩
    intro w c' A' B' h'
    refine ih (a + 1) _ _ _ _ (by omega) h' (by rw [List.length_append]; omega) ?_
    intro w c' A' B' h'
    exact hk w c' A' B' (by simpa using h')
theorem s_X1_fillPairs {v nq : Nat} {X Y Z A B : Nat → Int32} {Q : (Nat → Int32) → (Nat → Int32) → Prop} (h1 : 1 ≤ v) (h3 : v ≤ 3) (hT : tabP (nPol v) X Y Z) (h : ∀ A' B', (∀ k, k < nPr v → A' k = nI (pA v k) ∧ B' k = nI (pB v k)) → Q A' B') : wp_X1_fillPairs (nPr v) nq (nI (nPol v)) (nI (nPr v)) A B X Y Z Q := by
  unfold wp_X1_fillPairs
  refine ⟨nPol v + 1, c_L4f (nPol_le v) (by have := (nPr_b h1 h3).2; omega) hT (nPol v) 0 [] 0 A B (by omega) ⟨nI_0.symm, fun i t h => by simp at h⟩ (by simp [nPr, pairL]) ?_⟩
  rw [List.nil_append]
  intro c' w A' B' h'
  exact h A' B' (hold2_tab h').2
