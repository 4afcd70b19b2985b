/-! LEVEL 2: numbers, signs, common divisors -/
def sgn (v : Int32) : Int32 := if 0 < v then 1 else if v < 0 then -1 else 0
theorem s_X5_signOf {v : Int32} {Q : Int32 → Prop} (h : Q (sgn v)) : wp_X5_signOf v Q := by
  unfold wp_X5_signOf; unfold sgn at h; grind
theorem s_X6_signOf {v : Int32} {Q : Int32 → Prop} (h : Q (sgn v)) : wp_X6_signOf v Q := by
  unfold wp_X6_signOf; unfold sgn at h; grind
def isTri (x y z : Int32) : Prop := (-9 ≤ x ∧ x ≤ 9) ∧ (-9 ≤ y ∧ y ≤ 9) ∧ (-9 ≤ z ∧ z ≤ 9) ∧ ¬ (x = 0 ∧ y = 0 ∧ z = 0)
theorem s_X5_isNumber {v : Int32} {Q : Int32 → Prop} (h1 : (-9 ≤ v ∧ v ≤ 9) → Q 1) (h0 : ¬ (-9 ≤ v ∧ v ≤ 9) → Q 0) : wp_X5_isNumber v Q := by
  unfold wp_X5_isNumber; grind
theorem s_X6_within {v a b : Int32} {Q : Int32 → Prop} (h1 : (a ≤ v ∧ v ≤ b) → Q 1) (h0 : ¬ (a ≤ v ∧ v ≤ b) → Q 0) : wp_X6_within v a b Q := by
  unfold wp_X6_within; grind
theorem s_X5_isTriple {x y z : Int32} {Q : Int32 → Prop} (h1 : isTri x y z → Q 1) (h0 : ¬ isTri x y z → Q 0) : wp_X5_isTriple x y z Q := by
  unfold wp_X5_isTriple wp_X5_isNumber; unfold isTri at h1 h0; grind
theorem s_X6_isTriple {x y z : Int32} {Q : Int32 → Prop} (h1 : isTri x y z → Q 1) (h0 : ¬ isTri x y z → Q 0) : wp_X6_isTriple x y z Q := by
  unfold wp_X6_isTriple wp_X6_within; unfold isTri at h1 h0; grind
