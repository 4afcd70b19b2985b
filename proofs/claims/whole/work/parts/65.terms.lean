/-! LEVEL 2: least terms; the model's other methods -/
theorem cif5c {i a0 a1 a2 a3 a4 d : Int32} {Q : Int32 → Prop} (h : Q (cif (i = 0) a0 (cif (i = 1) a1 (cif (i = 2) a2 (cif (i = 3) a3 (cif (i = 4) a4 d)))))) : (i = 0 → Q a0) ∧ (i = 1 → Q a1) ∧ (i = 2 → Q a2) ∧ (i = 3 → Q a3) ∧ (i = 4 → Q a4) ∧ (¬ i = 0 → ¬ i = 1 → ¬ i = 2 → ¬ i = 3 → ¬ i = 4 → Q d) := by
  refine ⟨fun e => ?_, fun e => ?_, fun e => ?_, fun e => ?_, fun e => ?_, fun e0 e1 e2 e3 e4 => ?_⟩
  · rw [cif_pos e] at h; exact h
  · rw [cif_neg (by rw [e]; decide), cif_pos e] at h; exact h
  · rw [cif_neg (by rw [e]; decide), cif_neg (by rw [e]; decide), cif_pos e] at h; exact h
  · rw [cif_neg (by rw [e]; decide), cif_neg (by rw [e]; decide), cif_neg (by rw [e]; decide), cif_pos e] at h; exact h
  · rw [cif_neg (by rw [e]; decide), cif_neg (by rw [e]; decide), cif_neg (by rw [e]; decide), cif_neg (by rw [e]; decide), cif_pos e] at h; exact h
  · rw [cif_neg e0, cif_neg e1, cif_neg e2, cif_neg e3, cif_neg e4] at h; exact h
theorem cif7c {i a0 a1 a2 a3 a4 a5 a6 d : Int32} {Q : Int32 → Prop} (h : Q (cif (i = 0) a0 (cif (i = 1) a1 (cif (i = 2) a2 (cif (i = 3) a3 (cif (i = 4) a4 (cif (i = 5) a5 (cif (i = 6) a6 d)))))))) : (i = 0 → Q a0) ∧ (i = 1 → Q a1) ∧ (i = 2 → Q a2) ∧ (i = 3 → Q a3) ∧ (i = 4 → Q a4) ∧ (i = 5 → Q a5) ∧ (i = 6 → Q a6) ∧ (¬ i = 0 → ¬ i = 1 → ¬ i = 2 → ¬ i = 3 → ¬ i = 4 → ¬ i = 5 → ¬ i = 6 → Q d) := by
  refine ⟨fun e => ?_, fun e => ?_, fun e => ?_, fun e => ?_, fun e => ?_, fun e => ?_, fun e => ?_, fun e0 e1 e2 e3 e4 e5 e6 => ?_⟩
  · rw [cif_pos e] at h; exact h
  · rw [cif_neg (by rw [e]; decide), cif_pos e] at h; exact h
  · rw [cif_neg (by rw [e]; decide), cif_neg (by rw [e]; decide), cif_pos e] at h; exact h
  · rw [cif_neg (by rw [e]; decide), cif_neg (by rw [e]; decide), cif_neg (by rw [e]; decide), cif_pos e] at h; exact h
  · rw [cif_neg (by rw [e]; decide), cif_neg (by rw [e]; decide), cif_neg (by rw [e]; decide), cif_neg (by rw [e]; decide), cif_pos e] at h; exact h
  · rw [cif_neg (by rw [e]; decide), cif_neg (by rw [e]; decide), cif_neg (by rw [e]; decide), cif_neg (by rw [e]; decide), cif_neg (by rw [e]; decide), cif_pos e] at h; exact h
  · rw [cif_neg (by rw [e]; decide), cif_neg (by rw [e]; decide), cif_neg (by rw [e]; decide), cif_neg (by rw [e]; decide), cif_neg (by rw [e]; decide), cif_neg (by rw [e]; decide), cif_pos e] at h; exact h
  · rw [cif_neg e0, cif_neg e1, cif_neg e2, cif_neg e3, cif_neg e4, cif_neg e5, cif_neg e6] at h; exact h
theorem cif10c {i a0 a1 a2 a3 a4 a5 a6 a7 a8 a9 d : Int32} {Q : Int32 → Prop} (h : Q (cif (i = 0) a0 (cif (i = 1) a1 (cif (i = 2) a2 (cif (i = 3) a3 (cif (i = 4) a4 (cif (i = 5) a5 (cif (i = 6) a6 (cif (i = 7) a7 (cif (i = 8) a8 (cif (i = 9) a9 d))))))))))) : (i = 0 → Q a0) ∧ (i = 1 → Q a1) ∧ (i = 2 → Q a2) ∧ (i = 3 → Q a3) ∧ (i = 4 → Q a4) ∧ (i = 5 → Q a5) ∧ (i = 6 → Q a6) ∧ (i = 7 → Q a7) ∧ (i = 8 → Q a8) ∧ (i = 9 → Q a9) ∧ (¬ i = 0 → ¬ i = 1 → ¬ i = 2 → ¬ i = 3 → ¬ i = 4 → ¬ i = 5 → ¬ i = 6 → ¬ i = 7 → ¬ i = 8 → ¬ i = 9 → Q d) := by
  refine ⟨fun e => ?_, fun e => ?_, fun e => ?_, fun e => ?_, fun e => ?_, fun e => ?_, fun e => ?_, fun e => ?_, fun e => ?_, fun e => ?_, fun e0 e1 e2 e3 e4 e5 e6 e7 e8 e9 => ?_⟩
  · rw [cif_pos e] at h; exact h
  · rw [cif_neg (by rw [e]; decide), cif_pos e] at h; exact h
  · rw [cif_neg (by rw [e]; decide), cif_neg (by rw [e]; decide), cif_pos e] at h; exact h
  · rw [cif_neg (by rw [e]; decide), cif_neg (by rw [e]; decide), cif_neg (by rw [e]; decide), cif_pos e] at h; exact h
  · rw [cif_neg (by rw [e]; decide), cif_neg (by rw [e]; decide), cif_neg (by rw [e]; decide), cif_neg (by rw [e]; decide), cif_pos e] at h; exact h
  · rw [cif_neg (by rw [e]; decide), cif_neg (by rw [e]; decide), cif_neg (by rw [e]; decide), cif_neg (by rw [e]; decide), cif_neg (by rw [e]; decide), cif_pos e] at h; exact h
  · rw [cif_neg (by rw [e]; decide), cif_neg (by rw [e]; decide), cif_neg (by rw [e]; decide), cif_neg (by rw [e]; decide), cif_neg (by rw [e]; decide), cif_neg (by rw [e]; decide), cif_pos e] at h; exact h
  · rw [cif_neg (by rw [e]; decide), cif_neg (by rw [e]; decide), cif_neg (by rw [e]; decide), cif_neg (by rw [e]; decide), cif_neg (by rw [e]; decide), cif_neg (by rw [e]; decide), cif_neg (by rw [e]; decide), cif_pos e] at h; exact h
  · rw [cif_neg (by rw [e]; decide), cif_neg (by rw [e]; decide), cif_neg (by rw [e]; decide), cif_neg (by rw [e]; decide), cif_neg (by rw [e]; decide), cif_neg (by rw [e]; decide), cif_neg (by rw [e]; decide), cif_neg (by rw [e]; decide), cif_pos e] at h; exact h
  · rw [cif_neg (by rw [e]; decide), cif_neg (by rw [e]; decide), cif_neg (by rw [e]; decide), cif_neg (by rw [e]; decide), cif_neg (by rw [e]; decide), cif_neg (by rw [e]; decide), cif_neg (by rw [e]; decide), cif_neg (by rw [e]; decide), cif_neg (by rw [e]; decide), cif_pos e] at h; exact h
  · rw [cif_neg e0, cif_neg e1, cif_neg e2, cif_neg e3, cif_neg e4, cif_neg e5, cif_neg e6, cif_neg e7, cif_neg e8, cif_neg e9] at h; exact h

theorem lg_eq0 (z : Int64) : lg_cmp z 0 = 0 ↔ z = 0 := by
  unfold lg_cmp
  simp only [gt_iff_lt, Int64.lt_iff_toInt_lt, ← Int64.toInt_inj]
  repeat' split
  · constructor
    · intro h; exact absurd h (by decide)
    · intro h; omega
  · constructor
    · intro _; omega
    · intro _; rfl
  · constructor
    · intro h; exact absurd h (by decide)
    · intro h; omega
theorem lg_ge0 (x y : Int64) : 0 ≤ lg_cmp x y ↔ y ≤ x := by
  unfold lg_cmp
  simp only [gt_iff_lt, Int64.lt_iff_toInt_lt, Int64.le_iff_toInt_le, ← Int64.toInt_inj]
  repeat' split
  · constructor
    · intro _; omega
    · intro _; decide
  · constructor
    · intro _; omega
    · intro _; decide
  · constructor
    · intro h; exact absurd h (by decide)
    · intro h; omega
theorem il_L6 {K : Int64 → Int64 → Prop} : ∀ (b a : Nat), a < 2 ^ 62 → b < 2 ^ 62 → (∀ w, K (lN (Nat.gcd a b)) w) → ∃ n, wp_X6_inLeastTerms_L6 K n (lN a) (lN b)
  | 0, a, ha, hb, hK => ⟨1, by
      unfold wp_X6_inLeastTerms_L6
      rw [Nat.gcd_zero_right] at hK
      exact ⟨fun _ => hK _, fun h => absurd ((lg_eq0 _).mpr rfl) h⟩⟩
  | b + 1, a, ha, hb, hK => by
    have hlt : a % (b + 1) < b + 1 := Nat.mod_lt _ (by omega)
    rw [eu_gcd] at hK
    obtain ⟨n, hn⟩ := il_L6 (K := K) (a % (b + 1)) (b + 1) hb (by omega) hK
    refine ⟨n + 1, ?_⟩
    have c1 : ¬ lN (b + 1) = 0 := fun h => absurd ((pk_lEQ (by omega) (by decide)).mp (show lN (b + 1) = lN 0 from h)) (by omega)
    unfold wp_X6_inLeastTerms_L6
    refine ⟨fun h => absurd ((lg_eq0 _).mp h) c1, fun _ => ⟨c1, fun u e => ?_⟩⟩
    rw [e, pk_lRem (by omega) (by omega) (by omega)]
    exact hn
termination_by b => b
def lterm (u d : Nat) (w : Int32) : Int64 := if w = 0 then lN (u / Nat.gcd u d) else lN (d / Nat.gcd u d)
theorem s_X6_inLeastTerms {u d : Nat} {w : Int32} {Q : Int64 → Prop} (hu : u < 2 ^ 31) (hd : d < 2 ^ 31) (h0 : 0 < d) (h : Q (lterm u d w)) : wp_X6_inLeastTerms (lN u) (lN d) w Q := by
  have hg : 0 < Nat.gcd u d := Nat.gcd_pos_of_pos_right _ h0
  have hgl : Nat.gcd u d ≤ d := Nat.gcd_le_right _ h0
  refine il_L6 d u (by omega) (by omega) (fun z => ?_)
  have c1 : ¬ lN (Nat.gcd u d) = 0 := fun h => absurd ((pk_lEQ (by omega) (by decide)).mp (show lN (Nat.gcd u d) = lN 0 from h)) (by omega)
  unfold lterm at h
  refine ⟨fun c => ⟨c1, ?_⟩, fun c => ⟨c1, ?_⟩⟩
  · rw [if_pos c] at h; rw [pk_lDiv (by omega) hg (by omega)]; exact h
  · rw [if_neg c] at h; rw [pk_lDiv (by omega) hg (by omega)]; exact h
theorem toL {n : Nat} (h : n < 2 ^ 31) : (nI n).toInt64 = lN n := by
  rw [← Int64.toInt_inj, pk_lT (by omega), Int32.toInt_toInt64]
  unfold nI
  exact Int32.toInt_ofNat_of_lt h
theorem s_X5_leastTerm {u d : Nat} {w : Int32} {Q : Int64 → Prop} (hu : u < 2 ^ 31) (hd : d < 2 ^ 31) (h0 : 0 < d) (h : Q (lterm u d w)) : wp_X5_leastTerm (nI u) (nI d) w Q := by
  have hg : 0 < Nat.gcd u d := Nat.gcd_pos_of_pos_right _ h0
  have hgl : Nat.gcd u d ≤ d := Nat.gcd_le_right _ h0
  have o1 : ∀ {n : Nat}, n < 2 ^ 31 → -2147483648 < (nI n).toInt := fun {n} h => by
    have : (nI n).toInt = n := by unfold nI; exact Int32.toInt_ofNat_of_lt h
    omega
  unfold wp_X5_leastTerm
  refine s_X5_commonDivisor (o1 hu) (o1 hd) ?_
  have eg : gcd32 (nI u) (nI d) = nI (Nat.gcd u d) := by unfold gcd32; rw [ab_nI hu, ab_nI hd]
  rw [eg]
  have c1 : ¬ nI (Nat.gcd u d) = 0 := fun h => absurd ((nI_eq0 (by omega)).mp h) (by omega)
  have q1 : u / Nat.gcd u d ≤ u := Nat.div_le_self _ _
  have q2 : d / Nat.gcd u d ≤ d := Nat.div_le_self _ _
  unfold lterm at h
  refine ⟨fun c => absurd c c1, fun _ => ⟨fun c => ⟨c1, ?_⟩, fun c => ⟨c1, ?_⟩⟩⟩
  · rw [if_pos c] at h; rw [pk_div hu hg (by omega), toL (by omega)]; exact h
  · rw [if_neg c] at h; rw [pk_div hd hg (by omega), toL (by omega)]; exact h
theorem n_of {a : Int} (h0 : 0 ≤ a) : Int32.ofInt a = nI a.toNat ∧ Int64.ofInt a = lN a.toNat := by
  obtain ⟨n, rfl⟩ := Int.eq_ofNat_of_zero_le h0
  exact ⟨(nI_ofInt n).symm, Int64.ofInt_eq_ofNat⟩
/-- a fraction in least terms -/
def ltI2 (f : Int × Int) (w : Int32) : Int64 := lterm f.1.toNat f.2.toNat w
noncomputable def A_apart (v : Nat) (s t w : Int32) : Int64 := cif (lessN (2 * nPr v) s) (cif (lessN (2 * nPr v) t) (cif (0 ≤ w ∧ w ≤ 1) (ltI2 (upI (aI v (s.toNatClampNeg / 2)) (aI v (t.toNatClampNeg / 2)), dnI (aI v (s.toNatClampNeg / 2)) (aI v (t.toNatClampNeg / 2))) w) (-9223372036854775808)) (-9223372036854775808)) (-9223372036854775808)
theorem half_of {m : Nat} {s : Int32} (h : lessN (2 * m) s) (hm : m < 2 ^ 30) : s / 2 = nI (s.toNatClampNeg / 2) ∧ s.toNatClampNeg / 2 < m := by
  have := sol_half (s := s.toNatClampNeg) (by have := h.2; omega)
  rw [← h.1] at this
  exact ⟨this, by have := h.2; omega⟩
theorem apart_I {t u : T3} (ht : b18 t) (hu : b18 u) : Int32.ofInt (dotI t t) * Int32.ofInt (dotI u u) - Int32.ofInt (dotI t u) * Int32.ofInt (dotI t u) = Int32.ofInt (upI t u) ∧ Int32.ofInt (dotI t t) * Int32.ofInt (dotI u u) = Int32.ofInt (dnI t u) := by
  rw [← Int32.ofInt_mul, ← Int32.ofInt_mul, ← Int32.ofInt_sub]
  exact ⟨rfl, rfl⟩
theorem s_X1_apart {v i j : Nat} {t u : T3} {X Y Z S : Nat → Int32} {c : Int32} {Q : Int32 → Prop} (h1 : 1 ≤ v) (h3 : v ≤ 3) (hL : hold4 (axL v (nPr v)) c X Y Z S) (hi : (axL v (nPr v))[i]? = some t) (hj : (axL v (nPr v))[j]? = some u) : (Q (Int32.ofInt (upI t u)) → wp_X1_apartUpper (nI i) (nI j) (nPr v) (nPol v) X Y Z S Q) ∧ (Q (Int32.ofInt (dnI t u)) → wp_X1_apartLower (nI i) (nI j) (nPr v) (nPol v) S Q) := by
  have hb := nPr_b h1 h3
  have hl := axL_len v (nPr v)
  have li := (List.getElem?_eq_some_iff.mp hi).1
  have lj := (List.getElem?_eq_some_iff.mp hj).1
  have bt := axL_b v (nPr v) t (List.mem_of_getElem? hi)
  have bu := axL_b v (nPr v) u (List.mem_of_getElem? hj)
  have i1 : vp_in (nI i) (nPr v) := vp_in_nI (by omega) (by omega)
  have j1 : vp_in (nI j) (nPr v) := vp_in_nI (by omega) (by omega)
  obtain ⟨x1, y1, z1, s1⟩ := hL.2 i t hi
  obtain ⟨x2, y2, z2, s2⟩ := hL.2 j u hj
  have e1 := apart_I bt bu
  have e2 : Int32.ofInt t.1 * Int32.ofInt u.1 + Int32.ofInt t.2.1 * Int32.ofInt u.2.1 + Int32.ofInt t.2.2 * Int32.ofInt u.2.2 = Int32.ofInt (dotI t u) := by
    rw [← Int32.ofInt_mul, ← Int32.ofInt_mul, ← Int32.ofInt_mul, ← Int32.ofInt_add, ← Int32.ofInt_add]; rfl
  refine ⟨fun h => ?_, fun h => ?_⟩
  · unfold wp_X1_apartUpper wp_X1_axisDot wp_X1_apartLower
    rw [nI_clamp (n := i) (by omega), nI_clamp (n := j) (by omega), x1, y1, z1, x2, y2, z2, s1, s2, e2]
    refine ⟨i1, j1, i1, j1, i1, j1, i1, j1, ?_⟩
    rw [← e1.1] at h
    exact h
  · unfold wp_X1_apartLower
    rw [nI_clamp (n := i) (by omega), nI_clamp (n := j) (by omega), s1, s2]
    rw [← e1.2] at h
    exact ⟨i1, j1, h⟩
theorem s_X5_apart {v ns nn : Nat} {s t w : Int32} {O X Y Z S : Nat → Int32} {Q : Int64 → Prop} (h1 : 1 ≤ v) (h3 : v ≤ 3) (ha : axT v O X Y Z S) (h : Q (A_apart v s t w)) : wp_X5_apart s t w ns nn (nPr v) (nPol v) (nI (nPr v)) O X Y Z S Q := by
  have hb := nPr_b h1 h3
  unfold wp_X5_apart
  unfold A_apart at h
  refine s_X1_hasSolution h1 h3 (fun c => ⟨fun h => absurd h (by decide), fun _ => s_X1_hasSolution h1 h3 (fun d => ⟨fun h => absurd h (by decide), fun _ => ?_⟩) (fun d => ⟨fun _ => ?_, fun h => absurd rfl h⟩)⟩) (fun c => ⟨fun _ => ?_, fun h => absurd rfl h⟩)
  · rw [cif_pos c, cif_pos d] at h
    by_cases q : 0 ≤ w ∧ w ≤ 1
    · rw [cif_pos q] at h
      refine ⟨fun x => absurd x (by grind), fun _ => ⟨fun _ => ?_, fun x => absurd x (by grind)⟩⟩
      obtain ⟨e1, l1⟩ := half_of c (by omega)
      obtain ⟨e2, l2⟩ := half_of d (by omega)
      rw [e1, e2, nI_clamp (n := s.toNatClampNeg / 2) (by omega), nI_clamp (n := t.toNatClampNeg / 2) (by omega)]
      obtain ⟨i, o1, _, g1, _⟩ := ha.at h1 h3 l1
      obtain ⟨j, o2, _, g2, _⟩ := ha.at h1 h3 l2
      rw [o1, o2]
      refine ⟨vp_in_nI l1 (by omega), fun x3 e3 => ⟨vp_in_nI l2 (by omega), fun x4 e4 => ?_⟩⟩
      rw [e3, e4]
      obtain ⟨cc, hL⟩ := ha.1
      have bt := aI_b v (s.toNatClampNeg / 2)
      have bu := aI_b v (t.toNatClampNeg / 2)
      have nt : nz3 (aI v (s.toNatClampNeg / 2)) := aI_0 l1
      have nu : nz3 (aI v (t.toNatClampNeg / 2)) := aI_0 l2
      obtain ⟨d1, d2⟩ := dnI_b bt bu nt nu
      obtain ⟨p1, p2⟩ := upI_b (aI v (s.toNatClampNeg / 2)) (aI v (t.toNatClampNeg / 2))
      refine (s_X1_apart h1 h3 hL g1 g2).1 ((s_X1_apart h1 h3 hL g1 g2).2 ?_)
      rw [(n_of p1).1, (n_of (Int.le_of_lt d1)).1]
      exact s_X5_leastTerm (by omega) (by omega) (by omega) h
    · rw [cif_neg q] at h
      exact ⟨fun _ => h, fun x => ⟨fun y => absurd (by grind) q, fun _ => h⟩⟩
  · rw [cif_pos c, cif_neg d] at h; exact h
  · rw [cif_neg c] at h; exact h
theorem s_X6_apart {v : Nat} {s t w x y z : Int32} {X Y Z A B : Nat → Int32} {Q : Int64 → Int32 → Int32 → Int32 → Prop} (h1 : 1 ≤ v) (h3 : v ≤ 3) (hg : geo v X Y Z A B) (h : ∀ x y z, Q (A_apart v s t w) x y z) : wp_X6_apart s t w X Y Z (nI (nPr v)) A B x y z Q := by
  have hb := nPr_b h1 h3
  unfold wp_X6_apart
  refine s_X6_isSolution h1 h3 (fun c => ⟨fun h => absurd h (by decide), fun _ => s_X6_isSolution h1 h3 (fun d => ⟨fun h => absurd h (by decide), fun _ => s_X6_within (fun q => ⟨fun h => absurd h (by decide), fun _ => ?_⟩) (fun q => ⟨fun _ => ?_, fun h => absurd rfl h⟩)⟩) (fun d => ⟨fun _ => ?_, fun h => absurd rfl h⟩)⟩) (fun c => ⟨fun _ => ?_, fun h => absurd rfl h⟩)
  · rw [c.1, d.1]
    refine s_X6_findAxis h1 h3 hg.1 hg.2 c.2 (s_X6_findAxis h1 h3 hg.1 hg.2 d.2 (fun u10 e10 u11 e11 => ?_))
    have h := h (Int32.ofInt (aI v (t.toNatClampNeg / 2)).1) (Int32.ofInt (aI v (t.toNatClampNeg / 2)).2.1) (Int32.ofInt (aI v (t.toNatClampNeg / 2)).2.2)
    unfold A_apart at h
    rw [cif_pos c, cif_pos d, cif_pos q] at h
    have l1 : s.toNatClampNeg / 2 < nPr v := by have := c.2; omega
    have l2 : t.toNatClampNeg / 2 < nPr v := by have := d.2; omega
    have bt := aI_b v (s.toNatClampNeg / 2)
    have bu := aI_b v (t.toNatClampNeg / 2)
    have nt : nz3 (aI v (s.toNatClampNeg / 2)) := aI_0 l1
    have nu : nz3 (aI v (t.toNatClampNeg / 2)) := aI_0 l2
    generalize aI v (s.toNatClampNeg / 2) = p at *
    generalize aI v (t.toNatClampNeg / 2) = u at *
    obtain ⟨d1, d2⟩ := dnI_b bt bu nt nu
    obtain ⟨p1, p2⟩ := upI_b p u
    have hd0 := dotI_b bt bu
    have hd1 := dotI_b bt bt
    have hd2 := dotI_b bu bu
    have ee : ∀ a b : T3, Int32.ofInt a.1 * Int32.ofInt b.1 + Int32.ofInt a.2.1 * Int32.ofInt b.2.1 + Int32.ofInt a.2.2 * Int32.ofInt b.2.2 = Int32.ofInt (dotI a b) := fun a b => by
      rw [← Int32.ofInt_mul, ← Int32.ofInt_mul, ← Int32.ofInt_mul, ← Int32.ofInt_add, ← Int32.ofInt_add]; rfl
    rw [ee p u, w64 (by omega)] at e10
    rw [ee p p, ee u u, w64 (by omega), w64 (by omega), ← Int64.ofInt_mul] at e11
    have e12 : u11 - u10 * u10 = Int64.ofInt (upI p u) := by rw [e10, e11, ← Int64.ofInt_mul, ← Int64.ofInt_sub]; rfl
    have e13 : u11 = Int64.ofInt (dnI p u) := e11
    rw [e12, e13, (n_of p1).2, (n_of (Int.le_of_lt d1)).2]
    exact s_X6_inLeastTerms (by omega) (by omega) (by omega) h
  · have h := h x y z
    unfold A_apart at h
    rw [cif_pos c, cif_pos d, cif_neg q] at h; exact h
  · have h := h x y z
    unfold A_apart at h
    rw [cif_pos c, cif_neg d] at h; exact h
  · have h := h x y z
    unfold A_apart at h
    rw [cif_neg c] at h; exact h
