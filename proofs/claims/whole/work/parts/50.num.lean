/-! LEVEL 2: numbers, signs, common divisors -/
def sgn (v : Int32) : Int32 := if 0 < v then 1 else if v < 0 then -1 else 0
theorem s_X5_signOf {v : Int32} {Q : Int32 → Prop} (h : Q (sgn v)) : wp_X5_signOf v Q := by
  unfold wp_X5_signOf; unfold sgn at h; grind
theorem s_X6_signOf {v : Int32} {Q : Int32 → Prop} (h : Q (sgn v)) : wp_X6_signOf v Q := by
  unfold wp_X6_signOf; unfold sgn at h; grind
def isTri (x y z : Int32) : Prop := (-9 ≤ x ∧ x ≤ 9) ∧ (-9 ≤ y ∧ y ≤ 9) ∧ (-9 ≤ z ∧ z ≤ 9) ∧ ¬ (x = 0 ∧ y = 0 ∧ z = 0)
theorem s_X5_isNumber {v : Int32} {Q : Int32 → Prop} (h1 : (-9 ≤ v ∧ v ≤ 9) → Q 1) (h0 : ¬ (-9 ≤ v ∧ v ≤ 9) → Q 0) : wp_X5_isNumber v Q := by
  unfold wp_X5_isNumber; grind
theorem s_X6_within {v a b : Int32} {Q : Int32 → Prop} (h1 : (a ≤ v ∧ v ≤ b) → Q 1) (h0 : ¬ (a ≤ v ∧ v ≤ b) → Q 0) : wp_X6_within v a b Q := by
  unfold wp_X6_within; grind
theorem s_X5_isTriple {x y z : Int32} {Q : Int32 → Prop} (h1 : isTri x y z → Q 1) (h0 : ¬ isTri x y z → Q 0) : wp_X5_isTriple x y z Q := by
  unfold wp_X5_isTriple wp_X5_isNumber; unfold isTri at h1 h0; grind
theorem s_X6_isTriple {x y z : Int32} {Q : Int32 → Prop} (h1 : isTri x y z → Q 1) (h0 : ¬ isTri x y z → Q 0) : wp_X6_isTriple x y z Q := by
  unfold wp_X6_isTriple wp_X6_within; unfold isTri at h1 h0; grind
def ab (p : Int32) : Nat := p.toInt.natAbs
def gcd32 (p q : Int32) : Int32 := nI (Nat.gcd (ab p) (ab q))
theorem nI_ofInt (n : Nat) : nI n = Int32.ofInt n := (Int32.ofInt_eq_ofNat).symm
theorem ab_lt {p : Int32} (h : -2147483648 < p.toInt) : ab p < 2 ^ 31 := by
  have h1 := p.toInt_lt
  unfold ab; omega
theorem ab_nI {n : Nat} (h : n < 2 ^ 31) : ab (nI n) = n := by
  unfold ab; rw [nI_toInt h]; simp
theorem abs_ab {p : Int32} : (if 0 ≤ p then p else 0 - p) = nI (ab p) := by
  rw [nI_ofInt]
  have hp : p = Int32.ofInt p.toInt := (Int32.ofInt_toInt p).symm
  by_cases c : 0 ≤ p
  · rw [if_pos c]
    have h2 : (0 : Int) ≤ p.toInt := Int32.le_iff_toInt_le.mp c
    conv => lhs; rw [hp]
    congr 1
    unfold ab; omega
  · rw [if_neg c]
    have h2 : ¬ (0 : Int) ≤ p.toInt := fun h => c (Int32.le_iff_toInt_le.mpr h)
    conv => lhs; rw [hp]
    have h3 : (0 : Int32) = Int32.ofInt 0 := rfl
    rw [h3, ← Int32.ofInt_sub]
    congr 1
    unfold ab; omega
theorem neg_ab {p : Int32} (c : ¬ 0 ≤ p) : -p = nI (ab p) := by
  rw [nI_ofInt]
  have hp : p = Int32.ofInt p.toInt := (Int32.ofInt_toInt p).symm
  have h2 : ¬ (0 : Int) ≤ p.toInt := fun h => c (Int32.le_iff_toInt_le.mpr h)
  conv => lhs; rw [hp]
  rw [← Int32.ofInt_neg]
  congr 1
  unfold ab; omega
theorem pos_ab {p : Int32} (c : 0 ≤ p) : p = nI (ab p) := by
  have := abs_ab (p := p)
  rw [if_pos c] at this
  exact this
theorem eu_half {a b : Nat} (hb : b ≠ 0) (h : a % b ≠ 0) : 2 * (b % (a % b)) < b := by
  have h1 : a % b < b := Nat.mod_lt _ (by omega)
  have h2 : b % (a % b) < a % b := Nat.mod_lt _ (by omega)
  by_cases c : 2 * (a % b) ≤ b
  · omega
  · have h3 : b % (a % b) = b - a % b := by
      rw [Nat.mod_eq_sub_mod (by omega), Nat.mod_eq_of_lt (by omega)]
    omega
theorem eu_gcd (a b : Nat) : Nat.gcd a b = Nat.gcd b (a % b) := by
  rw [Nat.gcd_comm a b, Nat.gcd_rec b a, Nat.gcd_comm]
theorem nI_eq0 {n : Nat} (h : n < 2 ^ 31) : nI n = 0 ↔ n = 0 := by
  rw [← nI_0, nI_eq h (by decide)]
theorem cd_L13 {Q : Int32 → Prop} : ∀ (k n a b st : Nat), a < 2 ^ 31 → b < 2 ^ 31 → b < 2 ^ k → st + 2 * k ≤ 63 → 2 * k < n → Q (nI (Nat.gcd a b)) → wp_X5_commonDivisor_L13 (fun y _ _ => Q y) n (nI a) (nI b) (nI st)
  | 0, 0, a, b, st, _, _, _, _, h, _ => absurd h (by omega)
  | 0, n + 1, a, b, st, ha, hb, hk, hs, hn, hq => by
    have hb0 : b = 0 := by simpa using hk
    subst hb0
    rw [Nat.gcd_zero_right] at hq
    unfold wp_X5_commonDivisor_L13
    exact ⟨fun _ => hq, fun _ => ⟨fun _ => hq, fun h => absurd nI_0 h⟩⟩
  | k + 1, 0, a, b, st, _, _, _, _, h, _ => absurd h (by omega)
  | k + 1, 1, a, b, st, _, _, _, _, h, _ => absurd h (by omega)
  | k + 1, n + 2, a, b, st, ha, hb, hk, hs, hn, hq => by
    by_cases c : b = 0
    · subst c
      rw [Nat.gcd_zero_right] at hq
      unfold wp_X5_commonDivisor_L13
      exact ⟨fun _ => hq, fun _ => ⟨fun _ => hq, fun h => absurd nI_0 h⟩⟩
    · have c1 : ¬ nI b = 0 := fun h => c ((nI_eq0 hb).mp h)
      have m1 : a % b < b := Nat.mod_lt _ (by omega)
      have s64 : ∀ j : Nat, j ≤ 63 → ¬ (64 : Int32) ≤ nI j := fun j hj h => by
        have h2 := Int32.le_iff_toInt_le.mp h
        rw [nI_toInt (by omega)] at h2
        have h3 : (64 : Int32).toInt = 64 := rfl
        omega
      unfold wp_X5_commonDivisor_L13
      refine ⟨fun h => absurd h (s64 st (by omega)), fun _ => ⟨fun h => absurd h c1, fun _ => ⟨c1, fun x hx => ?_⟩⟩⟩
      rw [hx, pk_rem ha (by omega) hb, nI_1]
      rw [eu_gcd] at hq
      by_cases c2 : a % b = 0
      · rw [c2] at hq ⊢
        rw [Nat.gcd_zero_right] at hq
        unfold wp_X5_commonDivisor_L13
        exact ⟨fun _ => hq, fun _ => ⟨fun _ => hq, fun h => absurd nI_0 h⟩⟩
      · have c3 : ¬ nI (a % b) = 0 := fun h => c2 ((nI_eq0 (by omega)).mp h)
        unfold wp_X5_commonDivisor_L13
        refine ⟨fun h => absurd h (s64 (st + 1) (by omega)), fun _ => ⟨fun h => absurd h c3, fun _ => ⟨c3, fun x hx => ?_⟩⟩⟩
        rw [hx, pk_rem hb (by omega) (by omega), nI_1]
        rw [eu_gcd] at hq
        have m2 : b % (a % b) < a % b := Nat.mod_lt _ (by omega)
        have m3 := eu_half c c2
        exact cd_L13 k n (a % b) (b % (a % b)) (st + 1 + 1) (by omega) (by omega) (by rw [Nat.pow_succ] at hk; omega) (by omega) (by omega) hq
theorem s_X5_commonDivisor {x y : Int32} {Q : Int32 → Prop} (hx : -2147483648 < x.toInt) (hy : -2147483648 < y.toInt) (h : Q (gcd32 x y)) : wp_X5_commonDivisor x y Q := by
  unfold wp_X5_commonDivisor
  intro x1 e1 x2 e2
  rw [e1, e2, abs_ab, abs_ab]
  exact ⟨63, cd_L13 31 63 (ab x) (ab y) 0 (ab_lt hx) (ab_lt hy) (ab_lt hy) (by omega) (by omega) h⟩
theorem co_L22 {Q : Int32 → Prop} : ∀ (k n a b : Nat), a < 2 ^ 31 → b < 2 ^ 31 → b < 2 ^ k → 2 * k < n → Q (nI (Nat.gcd a b)) → wp_X6_common_L22 (fun y _ => Q y) n (nI a) (nI b)
  | 0, 0, a, b, _, _, _, h, _ => absurd h (by omega)
  | 0, n + 1, a, b, ha, hb, hk, hn, hq => by
    have hb0 : b = 0 := by simpa using hk
    subst hb0
    rw [Nat.gcd_zero_right] at hq
    unfold wp_X6_common_L22
    exact ⟨fun _ => hq, fun h => absurd nI_0 h⟩
  | k + 1, 0, a, b, _, _, _, h, _ => absurd h (by omega)
  | k + 1, 1, a, b, _, _, _, h, _ => absurd h (by omega)
  | k + 1, n + 2, a, b, ha, hb, hk, hn, hq => by
    by_cases c : b = 0
    · subst c
      rw [Nat.gcd_zero_right] at hq
      unfold wp_X6_common_L22
      exact ⟨fun _ => hq, fun h => absurd nI_0 h⟩
    · have c1 : ¬ nI b = 0 := fun h => c ((nI_eq0 hb).mp h)
      have m1 : a % b < b := Nat.mod_lt _ (by omega)
      unfold wp_X6_common_L22
      refine ⟨fun h => absurd h c1, fun _ => ⟨c1, fun x hx => ?_⟩⟩
      rw [hx, pk_rem ha (by omega) hb]
      rw [eu_gcd] at hq
      by_cases c2 : a % b = 0
      · rw [c2] at hq ⊢
        rw [Nat.gcd_zero_right] at hq
        unfold wp_X6_common_L22
        exact ⟨fun _ => hq, fun h => absurd nI_0 h⟩
      · have c3 : ¬ nI (a % b) = 0 := fun h => c2 ((nI_eq0 (by omega)).mp h)
        unfold wp_X6_common_L22
        refine ⟨fun h => absurd h c3, fun _ => ⟨c3, fun x hx => ?_⟩⟩
        rw [hx, pk_rem hb (by omega) (by omega)]
        rw [eu_gcd] at hq
        have m2 : b % (a % b) < a % b := Nat.mod_lt _ (by omega)
        have m3 := eu_half c c2
        exact co_L22 k n (a % b) (b % (a % b)) (by omega) (by omega) (by rw [Nat.pow_succ] at hk; omega) (by omega) hq
theorem s_X6_common {x y : Int32} {Q : Int32 → Prop} (hx : -2147483648 < x.toInt) (hy : -2147483648 < y.toInt) (h : Q (gcd32 x y)) : wp_X6_common x y Q := by
  have K : ∃ k, wp_X6_common_L22 (fun y _ => Q y) k (nI (ab x)) (nI (ab y)) := ⟨63, co_L22 31 63 (ab x) (ab y) (ab_lt hx) (ab_lt hy) (ab_lt hy) (by omega) h⟩
  unfold wp_X6_common
  refine ⟨fun c => ⟨fun d => ?_, fun d x1 e1 => ?_⟩, fun c x1 e1 => ⟨fun d => ?_, fun d x2 e2 => ?_⟩⟩
  · rw [← pos_ab c, ← pos_ab d] at K; exact K
  · rw [e1, neg_ab d]; rw [← pos_ab c] at K; exact K
  · rw [e1, neg_ab c]; rw [← pos_ab d] at K; exact K
  · rw [e1, e2, neg_ab c, neg_ab d]; exact K
theorem gcd32_toInt {x y : Int32} (hx : -2147483648 < x.toInt) : (gcd32 x y).toInt = (Nat.gcd (ab x) (ab y) : Nat) ∨ ab x = 0 := by
  by_cases c : ab x = 0
  · exact Or.inr c
  · left
    unfold gcd32
    refine nI_toInt ?_
    exact Nat.lt_of_le_of_lt (Nat.gcd_le_left _ (by omega)) (ab_lt hx)
theorem gcd_lt {a b : Nat} (ha : a < 2 ^ 31) (hb : b < 2 ^ 31) : Nat.gcd a b < 2 ^ 31 := by
  by_cases c : a = 0
  · subst c; rw [Nat.gcd_zero_left]; exact hb
  · exact Nat.lt_of_le_of_lt (Nat.gcd_le_left _ (by omega)) ha
theorem gcd32_ok {x y : Int32} (hx : -2147483648 < x.toInt) (hy : -2147483648 < y.toInt) : -2147483648 < (gcd32 x y).toInt := by
  unfold gcd32
  rw [nI_toInt (gcd_lt (ab_lt hx) (ab_lt hy))]
  omega
/-- a triple's divisor, with the sign of its first number that is not 0 -/
def sdiv (x y z : Int32) : Int32 := if (if x = 0 then (if y = 0 then z else y) else x) < 0 then -(gcd32 (gcd32 x y) z) else gcd32 (gcd32 x y) z
theorem s_X5_signedDivisor {x y z : Int32} {Q : Int32 → Prop} (hx : -2147483648 < x.toInt) (hy : -2147483648 < y.toInt) (hz : -2147483648 < z.toInt) (h : Q (sdiv x y z)) : wp_X5_signedDivisor x y z Q := by
  unfold wp_X5_signedDivisor
  refine s_X5_commonDivisor hx hy (s_X5_commonDivisor (gcd32_ok hx hy) hz ?_)
  unfold sdiv at h
  grind
theorem s_X6_leading {x y z : Int32} {Q : Int32 → Prop} (h : Q (sgn (if x = 0 then (if y = 0 then z else y) else x))) : wp_X6_leading x y z Q := by
  unfold wp_X6_leading
  refine ⟨fun c => ⟨fun d => s_X6_signOf ?_, fun d => s_X6_signOf ?_⟩, fun c => s_X6_signOf ?_⟩
  · rw [if_pos c, if_pos d] at h; exact h
  · rw [if_pos c, if_neg d] at h; exact h
  · rw [if_neg c] at h; exact h
theorem by_sdiv {x y z : Int32} (h : ¬ (x = 0 ∧ y = 0 ∧ z = 0)) : gcd32 (gcd32 x y) z * sgn (if x = 0 then (if y = 0 then z else y) else x) = sdiv x y z := by
  unfold sdiv sgn
  grind
