/-! LEVEL 2: the poles, as the class puts them down -/
theorem s_X2_reaches {g x y z : Int32} {Q : Int32 → Prop} (h1 : (x = g ∨ nI (ab y) = g ∨ nI (ab z) = g) → Q 1) (h0 : ¬ (x = g ∨ nI (ab y) = g ∨ nI (ab z) = g) → Q 0) : wp_X2_reaches g x y z Q := by
  unfold wp_X2_reaches
  simp only [abs_ab]
  grind
theorem sdiv_1 {x y z : Int} (hx : -1000 ≤ x ∧ x ≤ 1000) (hy : -1000 ≤ y ∧ y ≤ 1000) (hz : -1000 ≤ z ∧ z ≤ 1000) : sdiv (Int32.ofInt x) (Int32.ofInt y) (Int32.ofInt z) = 1 ↔ (0 < (if x = 0 then (if y = 0 then z else y) else x) ∧ Nat.gcd (Nat.gcd x.natAbs y.natAbs) z.natAbs = 1) := by
  unfold sdiv
  rw [lead_I hx hy hz, gcd_I hx hy hz]
  have el : Int32.ofInt (if x = 0 then (if y = 0 then z else y) else x) < 0 ↔ (if x = 0 then (if y = 0 then z else y) else x) < 0 := by
    rw [I0]; exact ltI (by split <;> (try split) <;> omega) (by omega)
  have hg : Nat.gcd (Nat.gcd x.natAbs y.natAbs) z.natAbs < 2 ^ 31 := gcd_lt (gcd_lt (by omega) (by omega)) (by omega)
  have eg : nI (Nat.gcd (Nat.gcd x.natAbs y.natAbs) z.natAbs) = 1 ↔ Nat.gcd (Nat.gcd x.natAbs y.natAbs) z.natAbs = 1 := by
    have h1 : (1 : Int32) = nI 1 := rfl
    rw [h1]
    exact nI_eq hg (by decide)
  by_cases c : (if x = 0 then (if y = 0 then z else y) else x) < 0
  · rw [if_pos (el.mpr c)]
    constructor
    · intro h
      exfalso
      have h2 := congrArg Int32.toInt h
      rw [nI_ofInt, ← Int32.ofInt_neg, Int32.toInt_ofInt_of_le (by omega) (by omega)] at h2
      have h3 : (1 : Int32).toInt = 1 := rfl
      omega
    · intro h; omega
  · rw [if_neg (fun h => c (el.mp h)), eg]
    constructor
    · intro h
      refine ⟨?_, h⟩
      by_cases d : (if x = 0 then (if y = 0 then z else y) else x) = 0
      · exfalso
        by_cases d1 : x = 0
        · by_cases d2 : y = 0
          · rw [if_pos d1, if_pos d2] at d
            subst d1; subst d2; subst d
            exact absurd h (by decide)
          · rw [if_pos d1, if_neg d2] at d; exact d2 d
        · rw [if_neg d1] at d; exact d1 d
      · omega
    · exact fun h => h.2
theorem s_X2_addIfPole {x y z : Int} {c : Int32} {X Y Z : Nat → Int32} {Q : (Nat → Int32) → (Nat → Int32) → (Nat → Int32) → Int32 → Prop} (hx : -1000 ≤ x ∧ x ≤ 1000) (hy : -1000 ≤ y ∧ y ≤ 1000) (hz : -1000 ≤ z ∧ z ≤ 1000) {k : Nat} (hc : c = nI k) (hk : k < 171)
    (h1 : (0 < (if x = 0 then (if y = 0 then z else y) else x) ∧ Nat.gcd (Nat.gcd x.natAbs y.natAbs) z.natAbs = 1) → Q (upd X c.toNatClampNeg (Int32.ofInt x)) (upd Y c.toNatClampNeg (Int32.ofInt y)) (upd Z c.toNatClampNeg (Int32.ofInt z)) (c + 1))
    (h0 : ¬ (0 < (if x = 0 then (if y = 0 then z else y) else x) ∧ Nat.gcd (Nat.gcd x.natAbs y.natAbs) z.natAbs = 1) → Q X Y Z c) : wp_X2_addIfPole (Int32.ofInt x) (Int32.ofInt y) (Int32.ofInt z) X Y Z c Q := by
  unfold wp_X2_addIfPole
  refine s_X5_signedDivisor (okI (by omega)) (okI (by omega)) (okI (by omega)) ?_
  rw [sdiv_1 hx hy hz]
  have hin : vp_in c 171 := by rw [hc]; exact vp_in_nI hk (by decide)
  have hlt : ¬ (171 : Int32) ≤ c := by
    rw [hc]
    exact nI_ge (a := k) (b := 171) hk (by decide)
  exact ⟨fun a => ⟨fun b => absurd b hlt, fun _ => ⟨hin, hin, hin, fun v hv => by rw [hv]; exact h1 a⟩⟩, h0⟩
theorem c_L21 {m s x y : Int} {K : Int32 → (Nat → Int32) → (Nat → Int32) → (Nat → Int32) → Int32 → Prop} (hm : 1 ≤ m ∧ m ≤ 3) (hs : 0 ≤ s ∧ s ≤ 100) (hx : 0 ≤ x ∧ x ≤ m) (hy : -m ≤ y ∧ y ≤ m) :
    ∀ (n : Nat) (z : Int) (l : List (Int × Int × Int)) (c : Int32) (X Y Z : Nat → Int32), z + n = m + 1 → -m ≤ z → hold3 l c X Y Z → l.length + (zs m s x y z n).length ≤ 145 →
      (∀ v X' Y' Z' c', hold3 (l ++ zs m s x y z n) c' X' Y' Z' → K v X' Y' Z' c') → wp_X2_addShell_L21 (Int32.ofInt m) (Int32.ofInt s) (Int32.ofInt x) (Int32.ofInt y) K (n + 1) (Int32.ofInt z) X Y Z c := by
  intro n
  induction n with
  | zero =>
    intro z l c X Y Z hz h3 hl hb hk
    unfold wp_X2_addShell_L21
    refine ⟨fun _ => hk _ _ _ _ _ (by simpa [zs] using hl), fun h => absurd ((ltI (by omega) (by omega)).mpr (by omega)) h⟩
  | succ n ih =>
    intro z l c X Y Z hz h3 hl hb hk
    have q1 := sq_b (a := x) (by omega)
    have q2 := sq_b (a := y) (by omega)
    have q3 := sq_b (a := z) (by omega)
    have nx : Int32.ofInt z + 1 = Int32.ofInt (z + 1) := by rw [I1, ← Int32.ofInt_add]
    have skip : polc m s x y z = false → wp_X2_addShell_L21 (Int32.ofInt m) (Int32.ofInt s) (Int32.ofInt x) (Int32.ofInt y) K (n + 1) (Int32.ofInt z + 1) X Y Z c := by
      intro hc
      rw [nx]
      simp only [zs, hc] at hb hk
      exact ih (z + 1) l c X Y Z (by omega) (by omega) hl (by simpa using hb) (by simpa using hk)
    unfold wp_X2_addShell_L21
    refine ⟨fun h => absurd ((ltI (by omega) (by omega)).mp h) (by omega), fun _ => ?_⟩
    have es : ((Int32.ofInt x * Int32.ofInt x + Int32.ofInt y * Int32.ofInt y) + Int32.ofInt z * Int32.ofInt z = Int32.ofInt s) ↔ x * x + y * y + z * z = s := by
      rw [← Int32.ofInt_mul, ← Int32.ofInt_mul, ← Int32.ofInt_mul, ← Int32.ofInt_add, ← Int32.ofInt_add, eqI (by omega) (by omega)]
    rw [es]
    have er : (Int32.ofInt x = Int32.ofInt m ∨ nI (ab (Int32.ofInt y)) = Int32.ofInt m ∨ nI (ab (Int32.ofInt z)) = Int32.ofInt m) ↔ max (max x.natAbs y.natAbs) z.natAbs = m.natAbs := by
      rw [ab_I (by omega), ab_I (by omega), nI_ofInt, nI_ofInt, eqI (by omega) (by omega), eqI (by omega) (by omega), eqI (by omega) (by omega)]
      omega
    refine ⟨fun c2 => s_X2_reaches ?_ ?_, fun c2 => skip (by simp [polc, c2])⟩
    · rw [er]
      intro c1
      refine ⟨fun h => absurd h (by decide), fun _ => ?_⟩
      refine s_X2_addIfPole (by omega) (by omega) (by omega) hl.1 (by omega) ?_ ?_
      · intro ⟨c3, c4⟩
        have hp : polc m s x y z = true := by simp [polc, c1, c2, c3, c4]
        simp only [zs, hp, if_true] at hb hk
        have hb' : l.length + (zs m s x y (z + 1) n).length + 1 ≤ 145 := by simp at hb; omega
        rw [nx]
        refine ih (z + 1) (l ++ [(x, y, z)]) _ _ _ _ (by omega) (by omega) (hold3_push hl (by omega) x y z) (by simp; omega) ?_
        intro v c' X' Y' Z' h'
        exact hk v c' X' Y' Z' (by simpa using h')
      · intro c3
        refine skip ?_
        have : ¬ ((0 < if x = 0 then if y = 0 then z else y else x) ∧ (x.natAbs.gcd y.natAbs).gcd z.natAbs = 1) := c3
        unfold polc
        by_cases d : 0 < (if x = 0 then (if y = 0 then z else y) else x)
        · have d2 : ¬ (x.natAbs.gcd y.natAbs).gcd z.natAbs = 1 := fun h => this ⟨d, h⟩
          simp [d2]
        · simp [d]
    · rw [er]
      intro c1
      exact ⟨fun _ => skip (by unfold polc; rw [decide_eq_false c1]; rfl), fun h => absurd rfl h⟩
theorem c_L11 {m s x : Int} {K : Int32 → (Nat → Int32) → (Nat → Int32) → (Nat → Int32) → Int32 → Prop} (hm : 1 ≤ m ∧ m ≤ 3) (hs : 0 ≤ s ∧ s ≤ 100) (hx : 0 ≤ x ∧ x ≤ m) :
    ∀ (n : Nat) (y : Int) (l : List (Int × Int × Int)) (c : Int32) (X Y Z : Nat → Int32), y + n = m + 1 → -m ≤ y → hold3 l c X Y Z → l.length + (ys m s x y n).length ≤ 145 →
      (∀ v X' Y' Z' c', hold3 (l ++ ys m s x y n) c' X' Y' Z' → K v X' Y' Z' c') → wp_X2_addShell_L11 (Int32.ofInt m) (Int32.ofInt s) (Int32.ofInt x) K (n + 1) (Int32.ofInt y) X Y Z c := by
  intro n
  induction n with
  | zero =>
    intro y l c X Y Z hz h3 hl hb hk
    unfold wp_X2_addShell_L11
    refine ⟨fun _ => hk _ _ _ _ _ (by simpa [ys] using hl), fun h => absurd ((ltI (by omega) (by omega)).mpr (by omega)) h⟩
  | succ n ih =>
    intro y l c X Y Z hz h3 hl hb hk
    simp only [ys] at hb hk
    have hb' : l.length + (zs m s x y (-m) (2 * m + 1).toNat).length + (ys m s x (y + 1) n).length ≤ 145 := by rw [List.length_append] at hb; omega
    unfold wp_X2_addShell_L11
    refine ⟨fun h => absurd ((ltI (by omega) (by omega)).mp h) (by omega), fun _ v hv => ?_⟩
    rw [hv, ← Int32.ofInt_neg]
    refine ⟨(2 * m + 1).toNat + 1, c_L21 hm hs hx (by omega) (2 * m + 1).toNat (-m) l c X Y Z (by omega) (by omega) hl (by omega) ?_⟩
    intro v X' Y' Z' c' h'
    rw [I1, ← Int32.ofInt_add]
    refine ih (y + 1) _ _ _ _ _ (by omega) (by omega) h' (by rw [List.length_append]; omega) ?_
    intro v c' X' Y' Z' h'
    exact hk v c' X' Y' Z' (by simpa using h')
theorem c_L2 {m s : Int} {K : Int32 → (Nat → Int32) → (Nat → Int32) → (Nat → Int32) → Int32 → Prop} (hm : 1 ≤ m ∧ m ≤ 3) (hs : 0 ≤ s ∧ s ≤ 100) :
    ∀ (n : Nat) (x : Int) (l : List (Int × Int × Int)) (c : Int32) (X Y Z : Nat → Int32), x + n = m + 1 → 0 ≤ x → hold3 l c X Y Z → l.length + (xs3 m s x n).length ≤ 145 →
      (∀ v X' Y' Z' c', hold3 (l ++ xs3 m s x n) c' X' Y' Z' → K v X' Y' Z' c') → wp_X2_addShell_L2 (Int32.ofInt m) (Int32.ofInt s) K (n + 1) (Int32.ofInt x) X Y Z c := by
  intro n
  induction n with
  | zero =>
    intro y l c X Y Z hz h3 hl hb hk
    unfold wp_X2_addShell_L2
    refine ⟨fun _ => hk _ _ _ _ _ (by simpa [xs3] using hl), fun h => absurd ((ltI (by omega) (by omega)).mpr (by omega)) h⟩
  | succ n ih =>
    intro x l c X Y Z hz h3 hl hb hk
    simp only [xs3] at hb hk
    have hb' : l.length + (ys m s x (-m) (2 * m + 1).toNat).length + (xs3 m s (x + 1) n).length ≤ 145 := by rw [List.length_append] at hb; omega
    unfold wp_X2_addShell_L2
    refine ⟨fun h => absurd ((ltI (by omega) (by omega)).mp h) (by omega), fun _ v hv => ?_⟩
    rw [hv, ← Int32.ofInt_neg]
    refine ⟨(2 * m + 1).toNat + 1, c_L11 hm hs (by omega) (2 * m + 1).toNat (-m) l c X Y Z (by omega) (by omega) hl (by omega) ?_⟩
    intro v X' Y' Z' c' h'
    rw [I1, ← Int32.ofInt_add]
    refine ih (x + 1) _ _ _ _ _ (by omega) (by omega) h' (by rw [List.length_append]; omega) ?_
    intro v c' X' Y' Z' h'
    exact hk v c' X' Y' Z' (by simpa using h')
theorem s_X2_addShell {m s : Int} {c : Int32} {X Y Z : Nat → Int32} {l : List (Int × Int × Int)} {Q : (Nat → Int32) → (Nat → Int32) → (Nat → Int32) → Int32 → Prop} (hm : 1 ≤ m ∧ m ≤ 3) (hs : 0 ≤ s ∧ s ≤ 100) (hl : hold3 l c X Y Z) (hb : l.length + (shl m s).length ≤ 145) (h : ∀ c' X' Y' Z', hold3 (l ++ shl m s) c' X' Y' Z' → Q X' Y' Z' c') : wp_X2_addShell (Int32.ofInt m) (Int32.ofInt s) X Y Z c Q := by
  unfold wp_X2_addShell
  exact ⟨(m + 1).toNat + 1, c_L2 hm hs (m + 1).toNat 0 l c X Y Z (by omega) (by omega) hl hb (fun v X' Y' Z' c' h' => h c' X' Y' Z' h')⟩
theorem c_L51 {m : Int} {K : Int32 → (Nat → Int32) → (Nat → Int32) → (Nat → Int32) → Int32 → Prop} (hm : 1 ≤ m ∧ m ≤ 3) :
    ∀ (n : Nat) (s : Int) (l : List (Int × Int × Int)) (c : Int32) (X Y Z : Nat → Int32), s + n = 3 * (m * m) + 1 → 0 ≤ s → hold3 l c X Y Z → l.length + (sqs m s n).length ≤ 145 →
      (∀ v X' Y' Z' c', hold3 (l ++ sqs m s n) c' X' Y' Z' → K v X' Y' Z' c') → wp_X2_init_L51 (Int32.ofInt (m * m)) (Int32.ofInt m) K (n + 1) (Int32.ofInt s) X Y Z c := by
  intro n
  have hq := sq_b (a := m) (by omega)
  have e3 : (3 : Int32) * Int32.ofInt (m * m) = Int32.ofInt (3 * (m * m)) := by
    have : (3 : Int32) = Int32.ofInt 3 := rfl
    rw [this, ← Int32.ofInt_mul]
  induction n with
  | zero =>
    intro s l c X Y Z hz h3 hl hb hk
    unfold wp_X2_init_L51
    rw [e3]
    refine ⟨fun _ => hk _ _ _ _ _ (by simpa [sqs] using hl), fun h => absurd ((ltI (by omega) (by omega)).mpr (by omega)) h⟩
  | succ n ih =>
    intro s l c X Y Z hz h3 hl hb hk
    simp only [sqs] at hb hk
    have hb' : l.length + (shl m s).length + (sqs m (s + 1) n).length ≤ 145 := by rw [List.length_append] at hb; omega
    unfold wp_X2_init_L51
    rw [e3]
    refine ⟨fun h => absurd ((ltI (by omega) (by omega)).mp h) (by omega), fun _ => ?_⟩
    refine s_X2_addShell hm (by omega) hl (by omega) (fun c' X' Y' Z' h' => ?_)
    rw [I1, ← Int32.ofInt_add]
    refine ih (s + 1) _ _ _ _ _ (by omega) (by omega) h' (by rw [List.length_append]; omega) ?_
    intro v c' X' Y' Z' h'
    exact hk v c' X' Y' Z' (by simpa using h')
theorem s_X2_init {Q : (Nat → Int32) → (Nat → Int32) → (Nat → Int32) → (Nat → Int32) → Int32 → Prop} (h : ∀ X Y Z U c, (∀ k, k < 145 → X k = pX k ∧ Y k = pY k ∧ Z k = pZ k) → (∀ v, 1 ≤ v → v ≤ 3 → U v = nI (nPol v)) → Q X Y Z U c) : wp_X2_init Q := by
  unfold wp_X2_init
  refine ⟨4, ?_⟩
  have stp : ∀ {a b : Int}, Int32.ofInt a + Int32.ofInt b = Int32.ofInt (a + b) := fun {a b} => (Int32.ofInt_add a b).symm
  have vin : ∀ j : Nat, j < 4 → vp_in (nI j) 4 := fun j hj => vp_in_nI hj (by decide)
  unfold wp_X2_init_L40
  refine ⟨fun h => absurd h (by decide), fun _ x hx => ?_⟩
  have e1 : x = Int32.ofInt (1 * 1) := hx
  rw [e1]
  refine ⟨4, c_L51 (m := 1) (by omega) 3 1 [] 0 _ _ _ (by decide) (by omega) hold3_0 (by rw [cos_1]; decide) ?_⟩
  rw [List.nil_append, cos_1]
  intro v X1 Y1 Z1 c1 h1
  refine ⟨vin 1 (by decide), ?_⟩
  unfold wp_X2_init_L40
  refine ⟨fun h => absurd h (by decide), fun _ x hx => ?_⟩
  have e2 : x = Int32.ofInt (2 * 2) := hx
  rw [e2]
  refine ⟨10, c_L51 (m := 2) (by omega) 9 4 (pTab.take 13) _ _ _ _ (by decide) (by omega) h1 (by rw [← List.length_append, cos_2]; decide) ?_⟩
  rw [cos_2]
  intro v X2 Y2 Z2 c2 h2
  refine ⟨vin 2 (by decide), ?_⟩
  unfold wp_X2_init_L40
  refine ⟨fun h => absurd h (by decide), fun _ x hx => ?_⟩
  have e3 : x = Int32.ofInt (3 * 3) := hx
  rw [e3]
  refine ⟨20, c_L51 (m := 3) (by omega) 19 9 (pTab.take 49) _ _ _ _ (by decide) (by omega) h2 (by rw [← List.length_append, cos_3, pTab_len]; decide) ?_⟩
  rw [cos_3]
  intro v X3 Y3 Z3 c3 h3
  refine ⟨vin 3 (by decide), ?_⟩
  unfold wp_X2_init_L40
  refine ⟨fun _ => ?_, fun h => absurd (by decide) h⟩
  have g3 : hold3 (pTab.take 145) c3 X3 Y3 Z3 := by rw [List.take_of_length_le (by rw [pTab_len]; decide)]; exact h3
  obtain ⟨k1, -⟩ := hold3_tab (by decide) h1
  obtain ⟨k2, -⟩ := hold3_tab (by decide) h2
  obtain ⟨k3, t3⟩ := hold3_tab (by decide) g3
  refine h _ _ _ _ _ t3 (fun v hv1 hv3 => ?_)
  have : v = 1 ∨ v = 2 ∨ v = 3 := by omega
  rcases this with h | h | h <;> subst h
  · rw [k1]; rfl
  · rw [k2]; rfl
  · rw [k3]; rfl
