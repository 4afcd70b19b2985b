/-! LEVEL 2: the poles, as both classes put them down -/
def pTab : List (Int × Int × Int) := [(0, 0, 1), (0, 1, 0), (1, 0, 0), (0, 1, -1), (0, 1, 1), (1, -1, 0), (1, 0, -1), (1, 0, 1), (1, 1, 0), (1, -1, -1), (1, -1, 1), (1, 1, -1), (1, 1, 1), (0, 1, -2), (0, 1, 2), (0, 2, -1), (0, 2, 1), (1, -2, 0), (1, 0, -2), (1, 0, 2), (1, 2, 0), (2, -1, 0), (2, 0, -1), (2, 0, 1), (2, 1, 0), (1, -2, -1), (1, -2, 1), (1, -1, -2), (1, -1, 2), (1, 1, -2), (1, 1, 2), (1, 2, -1), (1, 2, 1), (2, -1, -1), (2, -1, 1), (2, 1, -1), (2, 1, 1), (1, -2, -2), (1, -2, 2), (1, 2, -2), (1, 2, 2), (2, -2, -1), (2, -2, 1), (2, -1, -2), (2, -1, 2), (2, 1, -2), (2, 1, 2), (2, 2, -1), (2, 2, 1), (0, 1, -3), (0, 1, 3), (0, 3, -1), (0, 3, 1), (1, -3, 0), (1, 0, -3), (1, 0, 3), (1, 3, 0), (3, -1, 0), (3, 0, -1), (3, 0, 1), (3, 1, 0), (1, -3, -1), (1, -3, 1), (1, -1, -3), (1, -1, 3), (1, 1, -3), (1, 1, 3), (1, 3, -1), (1, 3, 1), (3, -1, -1), (3, -1, 1), (3, 1, -1), (3, 1, 1), (0, 2, -3), (0, 2, 3), (0, 3, -2), (0, 3, 2), (2, -3, 0), (2, 0, -3), (2, 0, 3), (2, 3, 0), (3, -2, 0), (3, 0, -2), (3, 0, 2), (3, 2, 0), (1, -3, -2), (1, -3, 2), (1, -2, -3), (1, -2, 3), (1, 2, -3), (1, 2, 3), (1, 3, -2), (1, 3, 2), (2, -3, -1), (2, -3, 1), (2, -1, -3), (2, -1, 3), (2, 1, -3), (2, 1, 3), (2, 3, -1), (2, 3, 1), (3, -2, -1), (3, -2, 1), (3, -1, -2), (3, -1, 2), (3, 1, -2), (3, 1, 2), (3, 2, -1), (3, 2, 1), (2, -3, -2), (2, -3, 2), (2, -2, -3), (2, -2, 3), (2, 2, -3), (2, 2, 3), (2, 3, -2), (2, 3, 2), (3, -2, -2), (3, -2, 2), (3, 2, -2), (3, 2, 2), (1, -3, -3), (1, -3, 3), (1, 3, -3), (1, 3, 3), (3, -3, -1), (3, -3, 1), (3, -1, -3), (3, -1, 3), (3, 1, -3), (3, 1, 3), (3, 3, -1), (3, 3, 1), (2, -3, -3), (2, -3, 3), (2, 3, -3), (2, 3, 3), (3, -3, -2), (3, -3, 2), (3, -2, -3), (3, -2, 3), (3, 2, -3), (3, 2, 3), (3, 3, -2), (3, 3, 2)]
def polc (m s x y z : Int) : Bool := decide (max (max x.natAbs y.natAbs) z.natAbs = m.natAbs) && (decide (x * x + y * y + z * z = s) && (decide (0 < (if x = 0 then (if y = 0 then z else y) else x)) && decide (Nat.gcd (Nat.gcd x.natAbs y.natAbs) z.natAbs = 1)))
def zs (m s x y : Int) : Int → Nat → List (Int × Int × Int)
  | _, 0 => []
  | z, n + 1 => (if polc m s x y z then [(x, y, z)] else []) ++ zs m s x y (z + 1) n
def ys (m s x : Int) : Int → Nat → List (Int × Int × Int)
  | _, 0 => []
  | y, n + 1 => zs m s x y (-m) (2 * m + 1).toNat ++ ys m s x (y + 1) n
def xs3 (m s : Int) : Int → Nat → List (Int × Int × Int)
  | _, 0 => []
  | x, n + 1 => ys m s x (-m) (2 * m + 1).toNat ++ xs3 m s (x + 1) n
def shl (m s : Int) : List (Int × Int × Int) := xs3 m s 0 (m + 1).toNat
def sqs (m : Int) : Int → Nat → List (Int × Int × Int)
  | _, 0 => []
  | s, n + 1 => shl m s ++ sqs m (s + 1) n
def mos : Int → Nat → List (Int × Int × Int)
  | _, 0 => []
  | m, n + 1 => sqs m 1 27 ++ mos (m + 1) n
theorem mos_1 : mos 1 1 = pTab.take 13 := by decide +kernel
theorem mos_2 : mos 1 2 = pTab.take 49 := by decide +kernel
theorem mos_3 : mos 1 3 = pTab := by decide +kernel
theorem cos_1 : sqs 1 1 3 = pTab.take 13 := by decide +kernel
theorem cos_2 : pTab.take 13 ++ sqs 2 4 9 = pTab.take 49 := by decide +kernel
theorem cos_3 : pTab.take 49 ++ sqs 3 9 19 = pTab := by decide +kernel
theorem pTab_len : pTab.length = 145 := by decide +kernel
def hold3 (l : List (Int × Int × Int)) (c : Int32) (X Y Z : Nat → Int32) : Prop := c = nI l.length ∧ ∀ (i : Nat) (t : Int × Int × Int), l[i]? = some t → X i = Int32.ofInt t.1 ∧ Y i = Int32.ofInt t.2.1 ∧ Z i = Int32.ofInt t.2.2
theorem hold3_0 {X Y Z : Nat → Int32} : hold3 [] 0 X Y Z := ⟨nI_0.symm, fun i t h => by simp at h⟩
theorem hold3_push {l : List (Int × Int × Int)} {c : Int32} {X Y Z : Nat → Int32} (h : hold3 l c X Y Z) (hl : l.length < 2 ^ 31) (x y z : Int) : hold3 (l ++ [(x, y, z)]) (c + 1) (upd X c.toNatClampNeg (Int32.ofInt x)) (upd Y c.toNatClampNeg (Int32.ofInt y)) (upd Z c.toNatClampNeg (Int32.ofInt z)) := by
  obtain ⟨h1, h2⟩ := h
  subst h1
  rw [nI_clamp hl]
  refine ⟨by rw [nI_1, List.length_append]; rfl, fun i t ht => ?_⟩
  by_cases c : i = l.length
  · subst c
    rw [List.getElem?_append_right (Nat.le_refl _)] at ht
    simp at ht
    subst ht
    exact ⟨pk_us, pk_us, pk_us⟩
  · have hi : i < (l ++ [(x, y, z)]).length := (List.getElem?_eq_some_iff.mp ht).1
    rw [List.length_append] at hi
    have hi2 : i < l.length := by simp at hi; omega
    rw [List.getElem?_append_left hi2] at ht
    rw [pk_un c, pk_un c, pk_un c]
    exact h2 i t ht
/-- small whole numbers in the machine's -/
theorem tI {z : Int} (h : -100000 ≤ z ∧ z ≤ 100000) : (Int32.ofInt z).toInt = z := Int32.toInt_ofInt_of_le (by omega) (by omega)
theorem ab_I {z : Int} (h : -100000 ≤ z ∧ z ≤ 100000) : ab (Int32.ofInt z) = z.natAbs := by unfold ab; rw [tI h]
theorem okI {z : Int} (h : -100000 ≤ z ∧ z ≤ 100000) : -2147483648 < (Int32.ofInt z).toInt := by rw [tI h]; omega
theorem ltI {a b : Int} (ha : -100000 ≤ a ∧ a ≤ 100000) (hb : -100000 ≤ b ∧ b ≤ 100000) : Int32.ofInt a < Int32.ofInt b ↔ a < b := by rw [Int32.lt_iff_toInt_lt, tI ha, tI hb]
theorem leI {a b : Int} (ha : -100000 ≤ a ∧ a ≤ 100000) (hb : -100000 ≤ b ∧ b ≤ 100000) : Int32.ofInt a ≤ Int32.ofInt b ↔ a ≤ b := by rw [Int32.le_iff_toInt_le, tI ha, tI hb]
theorem eqI {a b : Int} (ha : -100000 ≤ a ∧ a ≤ 100000) (hb : -100000 ≤ b ∧ b ≤ 100000) : Int32.ofInt a = Int32.ofInt b ↔ a = b := by rw [← Int32.toInt_inj, tI ha, tI hb]
theorem I0 : (0 : Int32) = Int32.ofInt 0 := rfl
theorem I1 : (1 : Int32) = Int32.ofInt 1 := rfl
theorem gcd_I {x y z : Int} (hx : -1000 ≤ x ∧ x ≤ 1000) (hy : -1000 ≤ y ∧ y ≤ 1000) (hz : -1000 ≤ z ∧ z ≤ 1000) : gcd32 (gcd32 (Int32.ofInt x) (Int32.ofInt y)) (Int32.ofInt z) = nI (Nat.gcd (Nat.gcd x.natAbs y.natAbs) z.natAbs) := by
  unfold gcd32
  rw [ab_I (by omega), ab_I (by omega), ab_I (by omega), ab_nI]
  exact gcd_lt (by omega) (by omega)
theorem s_X6_greaterSize {p q : Int32} {Q : Int32 → Prop} (hp : -2147483648 < p.toInt) (hq : -2147483648 < q.toInt) (h : Q (nI (max (ab p) (ab q)))) : wp_X6_greaterSize p q Q := by
  unfold wp_X6_greaterSize
  have lp := ab_lt hp
  have lq := ab_lt hq
  have fin : ∀ {u v : Int32}, u = nI (ab p) → v = nI (ab q) → (u ≤ v → Q v) ∧ (¬ u ≤ v → Q u) := by
    intro u v hu hv
    rw [hu, hv, nI_leI lp lq]
    refine ⟨fun c => ?_, fun c => ?_⟩
    · rw [Nat.max_eq_right c] at h; exact h
    · rw [Nat.max_eq_left (by omega)] at h; exact h
  refine ⟨fun c => ⟨fun d => fin (pos_ab c) (pos_ab d), fun d x e => fin (pos_ab c) (e.trans (neg_ab d))⟩, fun c x e => ⟨fun d => fin (e.trans (neg_ab c)) (pos_ab d), fun d y f => fin (e.trans (neg_ab c)) (f.trans (neg_ab d))⟩⟩
theorem sgn_le0 {v : Int32} : sgn v ≤ 0 ↔ ¬ 0 < v := by unfold sgn; grind
theorem lead_I {x y z : Int} (hx : -1000 ≤ x ∧ x ≤ 1000) (hy : -1000 ≤ y ∧ y ≤ 1000) (_hz : -1000 ≤ z ∧ z ≤ 1000) : (if Int32.ofInt x = 0 then (if Int32.ofInt y = 0 then Int32.ofInt z else Int32.ofInt y) else Int32.ofInt x) = Int32.ofInt (if x = 0 then (if y = 0 then z else y) else x) := by
  have e1 : Int32.ofInt x = 0 ↔ x = 0 := by rw [I0]; exact eqI (by omega) (by omega)
  have e2 : Int32.ofInt y = 0 ↔ y = 0 := by rw [I0]; exact eqI (by omega) (by omega)
  by_cases c : x = 0
  · rw [if_pos (e1.mpr c), if_pos c]
    by_cases d : y = 0
    · rw [if_pos (e2.mpr d), if_pos d]
    · rw [if_neg (fun h => d (e2.mp h)), if_neg d]
  · rw [if_neg (fun h => c (e1.mp h)), if_neg c]
theorem sq_b {a : Int} (h : -3 ≤ a ∧ a ≤ 3) : 0 ≤ a * a ∧ a * a ≤ 9 := by
  have : a = -3 ∨ a = -2 ∨ a = -1 ∨ a = 0 ∨ a = 1 ∨ a = 2 ∨ a = 3 := by omega
  rcases this with h | h | h | h | h | h | h <;> subst h <;> decide
/-- the model's innermost loop -/
theorem m_L21 {m s x y : Int} {K : Int32 → Int32 → (Nat → Int32) → (Nat → Int32) → (Nat → Int32) → Prop} (hm : 1 ≤ m ∧ m ≤ 3) (hs : 0 ≤ s ∧ s ≤ 100) (hx : -3 ≤ x ∧ x ≤ 3) (hy : -3 ≤ y ∧ y ≤ 3) :
    ∀ (n : Nat) (z : Int) (l : List (Int × Int × Int)) (c : Int32) (X Y Z : Nat → Int32), z + n = m + 1 → -3 ≤ z → hold3 l c X Y Z → l.length + (zs m s x y z n).length ≤ 145 →
      (∀ v c' X' Y' Z', hold3 (l ++ zs m s x y z n) c' X' Y' Z' → K v c' X' Y' Z') → wp_X6_addPoles_L21 (Int32.ofInt m) (Int32.ofInt s) (Int32.ofInt x) (Int32.ofInt y) K (n + 1) (Int32.ofInt z) c X Y Z := by
  intro n
  induction n with
  | zero =>
    intro z l c X Y Z hz h3 hl hb hk
    unfold wp_X6_addPoles_L21
    refine ⟨fun _ => hk _ _ _ _ _ (by simpa [zs] using hl), fun h => absurd ((ltI (by omega) (by omega)).mpr (by omega)) h⟩
  | succ n ih =>
    intro z l c X Y Z hz h3 hl hb hk
    have q1 := sq_b hx
    have q2 := sq_b hy
    have q3 := sq_b (a := z) (by omega)
    have nx : Int32.ofInt z + 1 = Int32.ofInt (z + 1) := by rw [I1, ← Int32.ofInt_add]
    have skip : polc m s x y z = false → wp_X6_addPoles_L21 (Int32.ofInt m) (Int32.ofInt s) (Int32.ofInt x) (Int32.ofInt y) K (n + 1) (Int32.ofInt z + 1) c X Y Z := by
      intro hc
      rw [nx]
      simp only [zs, hc] at hb hk
      exact ih (z + 1) l c X Y Z (by omega) (by omega) hl (by simpa using hb) (by simpa using hk)
    unfold wp_X6_addPoles_L21
    refine ⟨fun h => absurd ((ltI (by omega) (by omega)).mp h) (by omega), fun _ => ?_⟩
    refine s_X6_greaterSize (okI (by omega)) (okI (by omega)) ?_
    rw [ab_I (by omega), ab_I (by omega)]
    refine s_X6_greaterSize (by rw [nI_toInt (by omega)]; omega) (okI (by omega)) ?_
    rw [ab_nI (by omega), ab_I (by omega)]
    have em : (nI (max (max x.natAbs y.natAbs) z.natAbs) = Int32.ofInt m) ↔ max (max x.natAbs y.natAbs) z.natAbs = m.natAbs := by
      rw [nI_ofInt, eqI (by omega) (by omega)]; omega
    have es : ((Int32.ofInt x * Int32.ofInt x + Int32.ofInt y * Int32.ofInt y) + Int32.ofInt z * Int32.ofInt z = Int32.ofInt s) ↔ x * x + y * y + z * z = s := by
      rw [← Int32.ofInt_mul, ← Int32.ofInt_mul, ← Int32.ofInt_mul, ← Int32.ofInt_add, ← Int32.ofInt_add, eqI (by omega) (by omega)]
    rw [em, es]
    refine ⟨fun c1 => ⟨fun c2 => s_X6_leading ?_, fun c2 => skip (by simp [polc, c2])⟩, fun c1 => skip (by unfold polc; rw [decide_eq_false c1]; rfl)⟩
    rw [lead_I (by omega) (by omega) (by omega), sgn_le0]
    have el : (0 : Int32) < Int32.ofInt (if x = 0 then (if y = 0 then z else y) else x) ↔ 0 < (if x = 0 then (if y = 0 then z else y) else x) := by
      rw [I0]; exact ltI (by omega) (by split <;> (try split) <;> omega)
    rw [el]
    refine ⟨fun c3 => skip (by simp [polc, c3]), fun c3 => s_X6_common (okI (by omega)) (okI (by omega)) (s_X6_common (gcd32_ok (okI (by omega)) (okI (by omega))) (okI (by omega)) ?_)⟩
    rw [gcd_I (by omega) (by omega) (by omega)]
    have eg : nI (Nat.gcd (Nat.gcd x.natAbs y.natAbs) z.natAbs) = 1 ↔ Nat.gcd (Nat.gcd x.natAbs y.natAbs) z.natAbs = 1 := by
      have h1 : (1 : Int32) = nI 1 := rfl
      rw [h1]
      exact nI_eq (gcd_lt (gcd_lt (by omega) (by omega)) (by omega)) (by decide)
    rw [eg]
    refine ⟨fun c4 => ?_, fun c4 => skip (by simp [polc, c4])⟩
    have hp : polc m s x y z = true := by
      have c3' := Decidable.of_not_not c3
      simp [polc, c1, c2, c3', c4]
    simp only [zs, hp, if_true] at hb hk
    have hb' : l.length + (zs m s x y (z + 1) n).length + 1 ≤ 145 := by simp at hb; omega
    have hin : vp_in c 145 := by rw [hl.1]; exact vp_in_nI (by omega) (by decide)
    refine ⟨hin, hin, hin, fun v hv => ?_⟩
    rw [hv, nx]
    refine ih (z + 1) (l ++ [(x, y, z)]) _ _ _ _ (by omega) (by omega) (hold3_push hl (by omega) x y z) (by simp; omega) ?_
    intro v c' X' Y' Z' h'
    exact hk v c' X' Y' Z' (by simpa using h')
theorem m_L11 {m s x : Int} {K : Int32 → Int32 → (Nat → Int32) → (Nat → Int32) → (Nat → Int32) → Prop} (hm : 1 ≤ m ∧ m ≤ 3) (hs : 0 ≤ s ∧ s ≤ 100) (hx : -3 ≤ x ∧ x ≤ 3) :
    ∀ (n : Nat) (y : Int) (l : List (Int × Int × Int)) (c : Int32) (X Y Z : Nat → Int32), y + n = m + 1 → -3 ≤ y → hold3 l c X Y Z → l.length + (ys m s x y n).length ≤ 145 →
      (∀ v c' X' Y' Z', hold3 (l ++ ys m s x y n) c' X' Y' Z' → K v c' X' Y' Z') → wp_X6_addPoles_L11 (Int32.ofInt m) (Int32.ofInt s) (Int32.ofInt x) K (n + 1) (Int32.ofInt y) c X Y Z := by
  intro n
  induction n with
  | zero =>
    intro y l c X Y Z hz h3 hl hb hk
    unfold wp_X6_addPoles_L11
    refine ⟨fun _ => hk _ _ _ _ _ (by simpa [ys] using hl), fun h => absurd ((ltI (by omega) (by omega)).mpr (by omega)) h⟩
  | succ n ih =>
    intro y l c X Y Z hz h3 hl hb hk
    simp only [ys] at hb hk
    have hb' : l.length + (zs m s x y (-m) (2 * m + 1).toNat).length + (ys m s x (y + 1) n).length ≤ 145 := by rw [List.length_append] at hb; omega
    unfold wp_X6_addPoles_L11
    refine ⟨fun h => absurd ((ltI (by omega) (by omega)).mp h) (by omega), fun _ v hv => ?_⟩
    rw [hv, ← Int32.ofInt_neg]
    refine ⟨(2 * m + 1).toNat + 1, m_L21 hm hs hx (by omega) (2 * m + 1).toNat (-m) l c X Y Z (by omega) (by omega) hl (by omega) ?_⟩
    intro v c' X' Y' Z' h'
    rw [I1, ← Int32.ofInt_add]
    refine ih (y + 1) _ _ _ _ _ (by omega) (by omega) h' (by rw [List.length_append]; omega) ?_
    intro v c' X' Y' Z' h'
    exact hk v c' X' Y' Z' (by simpa using h')
theorem m_L2 {m s : Int} {K : Int32 → Int32 → (Nat → Int32) → (Nat → Int32) → (Nat → Int32) → Prop} (hm : 1 ≤ m ∧ m ≤ 3) (hs : 0 ≤ s ∧ s ≤ 100) :
    ∀ (n : Nat) (x : Int) (l : List (Int × Int × Int)) (c : Int32) (X Y Z : Nat → Int32), x + n = m + 1 → -3 ≤ x → hold3 l c X Y Z → l.length + (xs3 m s x n).length ≤ 145 →
      (∀ v c' X' Y' Z', hold3 (l ++ xs3 m s x n) c' X' Y' Z' → K v c' X' Y' Z') → wp_X6_addPoles_L2 (Int32.ofInt m) (Int32.ofInt s) K (n + 1) (Int32.ofInt x) c X Y Z := by
  intro n
  induction n with
  | zero =>
    intro y l c X Y Z hz h3 hl hb hk
    unfold wp_X6_addPoles_L2
    refine ⟨fun _ => hk _ _ _ _ _ (by simpa [xs3] using hl), fun h => absurd ((ltI (by omega) (by omega)).mpr (by omega)) h⟩
  | succ n ih =>
    intro x l c X Y Z hz h3 hl hb hk
    simp only [xs3] at hb hk
    have hb' : l.length + (ys m s x (-m) (2 * m + 1).toNat).length + (xs3 m s (x + 1) n).length ≤ 145 := by rw [List.length_append] at hb; omega
    unfold wp_X6_addPoles_L2
    refine ⟨fun h => absurd ((ltI (by omega) (by omega)).mp h) (by omega), fun _ v hv => ?_⟩
    rw [hv, ← Int32.ofInt_neg]
    refine ⟨(2 * m + 1).toNat + 1, m_L11 hm hs (by omega) (2 * m + 1).toNat (-m) l c X Y Z (by omega) (by omega) hl (by omega) ?_⟩
    intro v c' X' Y' Z' h'
    rw [I1, ← Int32.ofInt_add]
    refine ih (x + 1) _ _ _ _ _ (by omega) (by omega) h' (by rw [List.length_append]; omega) ?_
    intro v c' X' Y' Z' h'
    exact hk v c' X' Y' Z' (by simpa using h')
theorem s_X6_addPoles {m s : Int} {c : Int32} {X Y Z : Nat → Int32} {l : List (Int × Int × Int)} {Q : Int32 → (Nat → Int32) → (Nat → Int32) → (Nat → Int32) → Prop} (hm : 1 ≤ m ∧ m ≤ 3) (hs : 0 ≤ s ∧ s ≤ 100) (hl : hold3 l c X Y Z) (hb : l.length + (shl m s).length ≤ 145) (h : ∀ c' X' Y' Z', hold3 (l ++ shl m s) c' X' Y' Z' → Q c' X' Y' Z') : wp_X6_addPoles (Int32.ofInt m) (Int32.ofInt s) c X Y Z Q := by
  unfold wp_X6_addPoles
  exact ⟨(m + 1).toNat + 1, m_L2 hm hs (m + 1).toNat 0 l c X Y Z (by omega) (by omega) hl hb (fun v c' X' Y' Z' h' => h c' X' Y' Z' h')⟩
theorem m_L17 {m : Int} {K : Int32 → Int32 → (Nat → Int32) → (Nat → Int32) → (Nat → Int32) → Prop} (hm : 1 ≤ m ∧ m ≤ 3) :
    ∀ (n : Nat) (s : Int) (l : List (Int × Int × Int)) (c : Int32) (X Y Z : Nat → Int32), s + n = 28 → 0 ≤ s → hold3 l c X Y Z → l.length + (sqs m s n).length ≤ 145 →
      (∀ v c' X' Y' Z', hold3 (l ++ sqs m s n) c' X' Y' Z' → K v c' X' Y' Z') → wp_X6_makePoles_L17 (Int32.ofInt m) K (n + 1) (Int32.ofInt s) c X Y Z := by
  intro n
  have e27 : (27 : Int32) = Int32.ofInt 27 := rfl
  induction n with
  | zero =>
    intro s l c X Y Z hz h3 hl hb hk
    unfold wp_X6_makePoles_L17
    rw [e27]
    refine ⟨fun _ => hk _ _ _ _ _ (by simpa [sqs] using hl), fun h => absurd ((ltI (by omega) (by omega)).mpr (by omega)) h⟩
  | succ n ih =>
    intro s l c X Y Z hz h3 hl hb hk
    simp only [sqs] at hb hk
    have hb' : l.length + (shl m s).length + (sqs m (s + 1) n).length ≤ 145 := by rw [List.length_append] at hb; omega
    unfold wp_X6_makePoles_L17
    rw [e27]
    refine ⟨fun h => absurd ((ltI (by omega) (by omega)).mp h) (by omega), fun _ => ?_⟩
    refine s_X6_addPoles hm (by omega) hl (by omega) (fun c' X' Y' Z' h' => ?_)
    rw [I1, ← Int32.ofInt_add]
    refine ih (s + 1) _ _ _ _ _ (by omega) (by omega) h' (by rw [List.length_append]; omega) ?_
    intro v c' X' Y' Z' h'
    exact hk v c' X' Y' Z' (by simpa using h')
theorem m_L7 {v : Nat} {K : Int32 → Int32 → (Nat → Int32) → (Nat → Int32) → (Nat → Int32) → Prop} (hv : v ≤ 3) :
    ∀ (n : Nat) (m : Int) (l : List (Int × Int × Int)) (c : Int32) (X Y Z : Nat → Int32), m + n = v + 1 → 1 ≤ m → hold3 l c X Y Z → l.length + (mos m n).length ≤ 145 →
      (∀ w c' X' Y' Z', hold3 (l ++ mos m n) c' X' Y' Z' → K w c' X' Y' Z') → wp_X6_makePoles_L7 (nI v) K (n + 1) (Int32.ofInt m) c X Y Z := by
  intro n
  induction n with
  | zero =>
    intro s l c X Y Z hz h3 hl hb hk
    unfold wp_X6_makePoles_L7
    rw [nI_ofInt]
    refine ⟨fun _ => hk _ _ _ _ _ (by simpa [mos] using hl), fun h => absurd ((ltI (by omega) (by omega)).mpr (by omega)) h⟩
  | succ n ih =>
    intro m l c X Y Z hz h3 hl hb hk
    simp only [mos] at hb hk
    have hb' : l.length + (sqs m 1 27).length + (mos (m + 1) n).length ≤ 145 := by rw [List.length_append] at hb; omega
    unfold wp_X6_makePoles_L7
    refine ⟨fun h => absurd ((ltI (a := (v : Int)) (b := m) (by omega) (by omega)).mp (by rw [nI_ofInt] at h; exact h)) (by omega), fun _ => ?_⟩
    refine ⟨28, ?_⟩
    rw [I1]
    refine m_L17 (by omega) 27 1 l c X Y Z (by omega) (by omega) hl (by omega) ?_
    intro w c' X' Y' Z' h'
    rw [← Int32.ofInt_add]
    refine ih (m + 1) _ _ _ _ _ (by omega) (by omega) h' (by rw [List.length_append]; omega) ?_
    intro v c' X' Y' Z' h'
    exact hk v c' X' Y' Z' (by simpa using h')
/-- how many poles, and the first so many of the table -/
def nPol (v : Nat) : Nat := if v = 1 then 13 else if v = 2 then 49 else 145
theorem mos_v {v : Nat} (h1 : 1 ≤ v) (h3 : v ≤ 3) : mos 1 v = pTab.take (nPol v) := by
  have : v = 1 ∨ v = 2 ∨ v = 3 := by omega
  rcases this with h | h | h <;> subst h
  · exact mos_1
  · exact mos_2
  · rw [mos_3]; exact (List.take_of_length_le (by rw [pTab_len]; decide)).symm
def pX (k : Nat) : Int32 := Int32.ofInt (pTab.getD k (0, 0, 0)).1
def pY (k : Nat) : Int32 := Int32.ofInt (pTab.getD k (0, 0, 0)).2.1
def pZ (k : Nat) : Int32 := Int32.ofInt (pTab.getD k (0, 0, 0)).2.2
theorem nPol_le (v : Nat) : nPol v ≤ 145 := by unfold nPol; split <;> (try split) <;> omega
theorem hold3_tab {n : Nat} (hn : n ≤ 145) {c : Int32} {X Y Z : Nat → Int32} (h : hold3 (pTab.take n) c X Y Z) : c = nI n ∧ ∀ k, k < n → X k = pX k ∧ Y k = pY k ∧ Z k = pZ k := by
  obtain ⟨h1, h2⟩ := h
  refine ⟨by rw [h1, List.length_take, pTab_len, Nat.min_eq_left hn], fun k hk => ?_⟩
  have hlt : k < pTab.length := by rw [pTab_len]; omega
  have := h2 k (pTab[k]) (by rw [List.getElem?_take, if_pos hk, List.getElem?_eq_getElem hlt])
  unfold pX pY pZ
  rw [List.getD_eq_getElem?_getD, List.getElem?_eq_getElem hlt]
  exact this
