/-! LEVEL 2: poles, pairs, signs, axes, how far apart; both classes -/
theorem wf_mk {σ : Nat → Nat → Int32} (h : ∀ n, n < 24 → (σ 0 n = 0 ∨ σ 0 n = 1) ∧ (σ 4 n = -1 ∨ σ 4 n = 0 ∨ σ 4 n = 1) ∧ ∃ w : Nat, w ≤ 4 ∧ σ 5 n = nI w) : wfS σ := h
theorem wf_station {σ : Nat → Nat → Int32} {n x y z : Int32} (hw : wfS σ) : wfS (F_station σ n x y z).2 := by
  unfold F_station
  by_cases c : lessN 24 n
  · rw [cif_pos c]
    by_cases t : isTri x y z
    · rw [cif_pos t]
      intro j hj
      obtain ⟨h1, h2, w, h3, h4⟩ := hw j hj
      by_cases d : j = n.toNatClampNeg
      · subst d
        refine ⟨Or.inr pk_us, Or.inr (Or.inl pk_us), 1, by omega, ?_⟩
        exact pk_us
      · refine ⟨?_, ?_, w, h3, ?_⟩
        · show upd _ _ _ j = 0 ∨ upd _ _ _ j = 1
          rw [pk_un d]; exact h1
        · show upd _ _ _ j = -1 ∨ upd _ _ _ j = 0 ∨ upd _ _ _ j = 1
          rw [pk_un d]; exact h2
        · show upd _ _ _ j = _
          rw [pk_un d]; exact h4
    · rw [cif_neg t]; exact hw
  · rw [cif_neg c]; exact hw
theorem three {s : Int32} (h : -1 ≤ s ∧ s ≤ 1) : s = -1 ∨ s = 0 ∨ s = 1 := by
  have h1 := Int32.le_iff_toInt_le.mp h.1
  have h2 := Int32.le_iff_toInt_le.mp h.2
  have e1 : (-1 : Int32).toInt = -1 := rfl
  have e2 : (1 : Int32).toInt = 1 := rfl
  rw [e1] at h1
  rw [e2] at h2
  have : s.toInt = -1 ∨ s.toInt = 0 ∨ s.toInt = 1 := by omega
  rcases this with h | h | h
  · exact Or.inl (Int32.toInt_inj.mp (h.trans e1.symm))
  · exact Or.inr (Or.inl (Int32.toInt_inj.mp h))
  · exact Or.inr (Or.inr (Int32.toInt_inj.mp (h.trans e2.symm)))
theorem wf_sign {σ : Nat → Nat → Int32} {n s : Int32} (hw : wfS σ) : wfS (F_sign σ n s).2 := by
  unfold F_sign
  by_cases c : hasS σ n
  · rw [cif_pos c]
    by_cases t : -1 ≤ s ∧ s ≤ 1
    · rw [cif_pos t]
      intro j hj
      obtain ⟨h1, h2, w, h3, h4⟩ := hw j hj
      refine ⟨h1, ?_, w, h3, h4⟩
      show upd _ _ _ j = -1 ∨ upd _ _ _ j = 0 ∨ upd _ _ _ j = 1
      by_cases d : j = n.toNatClampNeg
      · subst d; rw [pk_us]; exact three t
      · rw [pk_un d]; exact h2
    · rw [cif_neg t]; exact hw
  · rw [cif_neg c]; exact hw
theorem wf_weigh {σ : Nat → Nat → Int32} {n s : Int32} (hw : wfS σ) : wfS (F_weigh σ n s).2 := by
  unfold F_weigh
  by_cases c : hasS σ n
  · rw [cif_pos c]
    by_cases t : 1 ≤ s ∧ s ≤ 4
    · rw [cif_pos t]
      intro j hj
      obtain ⟨h1, h2, w, h3, h4⟩ := hw j hj
      refine ⟨h1, h2, ?_⟩
      by_cases d : j = n.toNatClampNeg
      · obtain ⟨e, hl⟩ := nat_of (x := s) (by grind)
        refine ⟨s.toNatClampNeg, ?_, ?_⟩
        · have := t.2
          rw [e] at this
          exact (nI_leI hl (by decide)).mp (show nI _ ≤ nI 4 from this)
        · show upd _ _ _ j = _
          subst d; rw [pk_us]; exact e
      · refine ⟨w, h3, ?_⟩
        show upd _ _ _ j = _
        rw [pk_un d]; exact h4
    · rw [cif_neg t]; exact hw
  · rw [cif_neg c]; exact hw
theorem wf_dropS {σ : Nat → Nat → Int32} {k : Nat} (hw : wfS σ) : wfS (dropS σ k) := by
  intro j hj
  obtain ⟨h1, h2, w, h3, h4⟩ := hw j hj
  refine ⟨?_, h2, w, h3, h4⟩
  show upd _ _ _ j = 0 ∨ upd _ _ _ j = 1
  by_cases d : j = k
  · subst d; rw [pk_us]; exact Or.inl rfl
  · rw [pk_un d]; exact h1
theorem wf_drop {σ : Nat → Nat → Int32} {n : Int32} (hw : wfS σ) : wfS (F_drop σ n).2 := by
  unfold F_drop
  by_cases c : hasS σ n
  · rw [cif_pos c]; exact wf_dropS hw
  · rw [cif_neg c]; exact hw
theorem wf_turn {σ : Nat → Nat → Int32} {n : Int32} (hw : wfS σ) : wfS (F_turn σ n).2 := by
  unfold F_turn
  by_cases c : 0 ≤ n ∧ n ≤ 3
  · rw [cif_pos c]; exact hw
  · rw [cif_neg c]; exact hw
/-! poles -/
def cuT (C : Nat → Int32) : Prop := C 1 = nI (nPol 1) ∧ C 2 = nI (nPol 2) ∧ C 3 = nI (nPol 3)
theorem cuT.at {C : Nat → Int32} (h : cuT C) {v : Nat} (h1 : 1 ≤ v) (h3 : v ≤ 3) : C v = nI (nPol v) := by
  have : v = 1 ∨ v = 2 ∨ v = 3 := by omega
  rcases this with e | e | e <;> subst e
  · exact h.1
  · exact h.2.1
  · exact h.2.2
theorem v_in {v : Nat} (h3 : v ≤ 3) : vp_in (nI v) 4 := vp_in_nI (by omega) (by decide)
theorem nPol_pos (v : Nat) : 0 < nPol v := by unfold nPol; split <;> (try split) <;> omega
theorem s_X5_isPole {v : Nat} {k : Int32} {C : Nat → Int32} {Q : Int32 → Prop} (h1 : 1 ≤ v) (h3 : v ≤ 3) (hC : cuT C) (y : lessN (nPol v) k → Q 1) (n : ¬ lessN (nPol v) k → Q 0) : wp_X5_isPole k (nI v) C Q := by
  have hp := nPol_le v
  unfold wp_X5_isPole
  rw [nI_clamp (n := v) (by omega), hC.at h1 h3]
  refine ⟨fun c => n (fun h => ?_), fun c => ⟨v_in h3, fun c2 => n (fun h => ?_), fun c2 => y (lessN_of (by omega) (by grind) (by grind))⟩⟩
  · have := lessN_0 (by omega) h; grind
  · have := lessN_0 (by omega) h; grind
theorem nb1 : narrow .boolean (.int (1 : Int32)) = .int (1 : Int32) := rfl
theorem nb0 : narrow .boolean (.int (0 : Int32)) = .int (0 : Int32) := rfl
theorem s_X6_isPole {v : Nat} {k : Int32} {Q : Int32 → Prop} (y : lessN (nPol v) k → Q 1) (n : ¬ lessN (nPol v) k → Q 0) : wp_X6_isPole k (nI (nPol v)) Q := by
  have hp := nPol_le v
  have h0 := nPol_pos v
  unfold wp_X6_isPole
  refine s_X6_within (fun c => ⟨nb1, y (lessN_of (by omega) c.1 ((le_pred (by omega) h0).mp c.2))⟩) (fun c => ⟨nb0, n (fun h => c ?_)⟩)
  have := lessN_0 (by omega) h
  exact ⟨this.1, (le_pred (by omega) h0).mpr this.2⟩
noncomputable def A_pole (v : Nat) (k i : Int32) : Int32 := cif (lessN (nPol v) k) (cif (i = 0) (pX k.toNatClampNeg + 10) (cif (i = 1) (pY k.toNatClampNeg + 10) (cif (i = 2) (pZ k.toNatClampNeg + 10) (-2)))) (-1)
theorem cif4 {i a b c d : Int32} {Q : Int32 → Prop} (h : Q (cif (i = 0) a (cif (i = 1) b (cif (i = 2) c d)))) : (i = 0 → Q a) ∧ (i = 1 → Q b) ∧ (i = 2 → Q c) ∧ (¬ i = 0 → ¬ i = 1 → ¬ i = 2 → Q d) := by
  refine ⟨fun e => ?_, fun e => ?_, fun e => ?_, fun e1 e2 e3 => ?_⟩
  · rw [cif_pos e] at h; exact h
  · rw [cif_neg (by rw [e]; decide), cif_pos e] at h; exact h
  · rw [cif_neg (by rw [e]; decide), cif_neg (by rw [e]; decide), cif_pos e] at h; exact h
  · rw [cif_neg e1, cif_neg e2, cif_neg e3] at h; exact h
theorem s_X5_pole {v : Nat} {k i : Int32} {X Y Z C : Nat → Int32} {Q : Int32 → Prop} (h1 : 1 ≤ v) (h3 : v ≤ 3) (hC : cuT C) (hT : tabP 145 X Y Z) (h : Q (A_pole v k i)) : wp_X5_pole k i (nI v) X Y Z C Q := by
  have hp := nPol_le v
  unfold wp_X5_pole
  unfold A_pole at h
  refine s_X5_isPole h1 h3 hC (fun c => ⟨fun h => absurd h (by decide), fun _ => ?_⟩) (fun c => ⟨fun _ => ?_, fun h => absurd rfl h⟩)
  · have i1 : vp_in k 171 := by rw [c.1]; exact vp_in_nI (by have := c.2; omega) (by decide)
    obtain ⟨t1, t2, t3⟩ := hT k.toNatClampNeg (by have := c.2; omega)
    rw [cif_pos c] at h
    obtain ⟨a, b, c, d⟩ := cif4 h
    rw [t1, t2, t3]
    exact ⟨fun e => ⟨i1, a e⟩, fun e => ⟨i1, b e⟩, fun e => ⟨i1, c e⟩, d⟩
  · rw [cif_neg c] at h; exact h
theorem s_X6_pole {v : Nat} {k i : Int32} {X Y Z : Nat → Int32} {Q : Int32 → Prop} (hT : tabP (nPol v) X Y Z) (h : Q (A_pole v k i)) : wp_X6_pole k i (nI (nPol v)) X Y Z Q := by
  have hp := nPol_le v
  unfold wp_X6_pole
  unfold A_pole at h
  refine s_X6_isPole (fun c => ⟨fun h => absurd h (by decide), fun _ => ?_⟩) (fun c => ⟨fun _ => ?_, fun h => absurd rfl h⟩)
  · have i1 : vp_in k 145 := by rw [c.1]; exact vp_in_nI (by have := c.2; omega) (by decide)
    obtain ⟨t1, t2, t3⟩ := hT k.toNatClampNeg c.2
    rw [cif_pos c] at h
    obtain ⟨a, b, c, d⟩ := cif4 h
    rw [t1, t2, t3]
    exact ⟨fun e => ⟨i1, a e⟩, fun e => ⟨i1, b e⟩, fun e => ⟨i1, c e⟩, d⟩
  · rw [cif_neg c] at h; exact h
theorem tri_ok {x y z : Int32} (h : isTri x y z) : -2147483648 < x.toInt ∧ -2147483648 < y.toInt ∧ -2147483648 < z.toInt := by
  obtain ⟨a, b, c, _⟩ := h
  have e : (-9 : Int32).toInt = -9 := rfl
  have h1 := Int32.le_iff_toInt_le.mp a.1
  have h2 := Int32.le_iff_toInt_le.mp b.1
  have h3 := Int32.le_iff_toInt_le.mp c.1
  omega
theorem sdiv_ne {x y z : Int32} (h : isTri x y z) : ¬ sdiv x y z = 0 := by
  obtain ⟨a, b, c, d⟩ := h
  have e : (-9 : Int32).toInt = -9 := rfl
  have e9 : (9 : Int32).toInt = 9 := rfl
  have a1 := Int32.le_iff_toInt_le.mp a.1
  have a2 := Int32.le_iff_toInt_le.mp a.2
  have b1 := Int32.le_iff_toInt_le.mp b.1
  have b2 := Int32.le_iff_toInt_le.mp b.2
  have c1 := Int32.le_iff_toInt_le.mp c.1
  have c2 := Int32.le_iff_toInt_le.mp c.2
  have hb : b18 (x.toInt, y.toInt, z.toInt) := by unfold b18; dsimp only; omega
  have hs := sdiv_I hb
  rw [Int32.ofInt_toInt, Int32.ofInt_toInt, Int32.ofInt_toInt] at hs
  rw [hs]
  have hd := dI_b hb
  have hn : dI (x.toInt, y.toInt, z.toInt) ≠ 0 := dI_ne (fun q => d ⟨Int32.toInt_inj.mp q.1, Int32.toInt_inj.mp q.2.1, Int32.toInt_inj.mp q.2.2⟩)
  rw [I0, eqI (by omega) (by omega)]
  exact hn
noncomputable def A_poleOf (v : Nat) (p q r : Int32) : Int32 := cif (isTri p q r) (fnd (polB (p / sdiv p q r) (q / sdiv p q r) (r / sdiv p q r)) (nPol v) 0) (-2)
theorem s_X5_poleOf {v : Nat} {p q r : Int32} {X Y Z C : Nat → Int32} {Q : Int32 → Prop} (h1 : 1 ≤ v) (h3 : v ≤ 3) (hC : cuT C) (hT : tabP 145 X Y Z) (h : Q (A_poleOf v p q r)) : wp_X5_poleOf p q r (nI v) X Y Z C Q := by
  have hp := nPol_le v
  unfold wp_X5_poleOf
  unfold A_poleOf at h
  refine s_X5_isTriple (fun t => ⟨fun h => absurd h (by decide), fun _ => ?_⟩) (fun t => ⟨fun _ => by rw [cif_neg t] at h; exact h, fun h => absurd rfl h⟩)
  rw [cif_pos t] at h
  obtain ⟨o1, o2, o3⟩ := tri_ok t
  have hn := sdiv_ne t
  refine s_X5_signedDivisor o1 o2 o3 ⟨fun c => absurd c hn, fun _ => ⟨hn, hn, hn, v_in h3, ?_⟩⟩
  rw [nI_clamp (n := v) (by omega), hC.at h1 h3]
  exact ⟨nPol v + 1, pf_L3 hp (fun k hk => hT k (by omega)) (nPol v) 0 (by omega) h⟩
theorem s_X6_poleOf {v : Nat} {p q r : Int32} {X Y Z : Nat → Int32} {Q : Int32 → Prop} (hT : tabP (nPol v) X Y Z) (h : Q (A_poleOf v p q r)) : wp_X6_poleOf p q r (nI (nPol v)) X Y Z Q := by
  have hp := nPol_le v
  unfold wp_X6_poleOf
  unfold A_poleOf at h
  refine s_X6_isTriple (fun t => ⟨fun h => absurd h (by decide), fun _ => ?_⟩) (fun t => ⟨fun _ => by rw [cif_neg t] at h; exact h, fun h => absurd rfl h⟩)
  rw [cif_pos t] at h
  obtain ⟨o1, o2, o3⟩ := tri_ok t
  have hn := sdiv_ne t
  refine s_X6_common o1 o2 (s_X6_common (gcd32_ok o1 o2) o3 (s_X6_leading (fun x5 e5 => ?_)))
  rw [by_sdiv t.2.2.2] at e5
  rw [e5]
  exact ⟨nPol v + 1, po_L33 hp hT hn (nPol v) 0 (by omega) h⟩
noncomputable def A_pair (v : Nat) (k i : Int32) : Int32 := cif (lessN (nPr v) k) (cif (i = 0) (nI (pA v k.toNatClampNeg)) (cif (i = 1) (nI (pB v k.toNatClampNeg)) (-2))) (-1)
theorem cif3 {i a b d : Int32} {Q : Int32 → Prop} (h : Q (cif (i = 0) a (cif (i = 1) b d))) : (i = 0 → Q a) ∧ (¬ i = 0 → i = 1 → Q b) ∧ (¬ i = 0 → ¬ i = 1 → Q d) := by
  refine ⟨fun e => ?_, fun e1 e => ?_, fun e1 e2 => ?_⟩
  · rw [cif_pos e] at h; exact h
  · rw [cif_neg e1, cif_pos e] at h; exact h
  · rw [cif_neg e1, cif_neg e2] at h; exact h
theorem s_X5_pair {v ns nn : Nat} {k i : Int32} {A B : Nat → Int32} {Q : Int32 → Prop} (h1 : 1 ≤ v) (h3 : v ≤ 3) (hAB : ∀ k, k < nPr v → A k = nI (pA v k) ∧ B k = nI (pB v k)) (h : Q (A_pair v k i)) : wp_X5_pair k i ns nn (nPr v) (nPol v) (nI (nPr v)) A B Q := by
  have hb := nPr_b h1 h3
  unfold wp_X5_pair
  unfold A_pair at h
  by_cases c : lessN (nPr v) k
  · have cc := lessN_0 (by omega) c
    have i1 := c.vp (by omega)
    obtain ⟨t1, t2⟩ := hAB _ c.2
    rw [cif_pos c] at h
    obtain ⟨a, b, d⟩ := cif3 h
    rw [t1, t2]
    exact ⟨fun d => absurd d (by grind), fun _ => ⟨fun _ => ⟨fun e => ⟨i1, a e⟩, fun e => ⟨fun e2 => ⟨i1, b e e2⟩, d e⟩⟩, fun d => absurd cc.2 d⟩⟩
  · rw [cif_neg c] at h
    exact ⟨fun _ => h, fun d => ⟨fun d2 => absurd (lessN_of (by omega) (by grind) d2) c, fun _ => h⟩⟩
theorem s_X6_pair {v : Nat} {k i : Int32} {A B : Nat → Int32} {Q : Int32 → Prop} (h1 : 1 ≤ v) (h3 : v ≤ 3) (hAB : ∀ k, k < nPr v → A k = nI (pA v k) ∧ B k = nI (pB v k)) (h : Q (A_pair v k i)) : wp_X6_pair k i (nI (nPr v)) A B Q := by
  have hb := nPr_b h1 h3
  unfold wp_X6_pair
  unfold A_pair at h
  refine s_X6_within (fun c => ⟨fun h => absurd h (by decide), fun _ => ?_⟩) (fun c => ⟨fun _ => ?_, fun h => absurd rfl h⟩)
  · have c := lessN_of (by omega) c.1 ((le_pred (by omega) hb.1).mp c.2)
    have i1 : vp_in k 1160 := by rw [c.1]; exact vp_in_nI (by have := c.2; omega) (by decide)
    obtain ⟨t1, t2⟩ := hAB _ c.2
    rw [cif_pos c] at h
    obtain ⟨a, b, d⟩ := cif3 h
    rw [t1, t2]
    exact ⟨fun e => ⟨i1, a e⟩, fun e => ⟨fun e2 => ⟨i1, b e e2⟩, d e⟩⟩
  · rw [cif_neg (fun d => c ?_)] at h
    · exact h
    · have := lessN_0 (by omega) d
      exact ⟨this.1, (le_pred (by omega) hb.1).mpr this.2⟩
noncomputable def A_pairOf (v : Nat) (a b : Int32) : Int32 := cif (lessN (nPol v) a) (cif (lessN (nPol v) b) (fnd (prB v a b) (nPr v) 0) (-1)) (-1)
theorem s_X5_pairOf {v ns nn : Nat} {a b : Int32} {A B C : Nat → Int32} {Q : Int32 → Prop} (h1 : 1 ≤ v) (h3 : v ≤ 3) (hC : cuT C) (hAB : ∀ k, k < nPr v → A k = nI (pA v k) ∧ B k = nI (pB v k)) (h : Q (A_pairOf v a b)) : wp_X5_pairOf a b ns nn (nPr v) (nPol v) (nI v) (nI (nPr v)) A B C Q := by
  unfold wp_X5_pairOf
  unfold A_pairOf at h
  refine s_X5_isPole h1 h3 hC (fun c => ⟨fun h => absurd h (by decide), fun _ => s_X5_isPole h1 h3 hC (fun d => ⟨fun h => absurd h (by decide), fun _ x3 e3 x4 e4 => ⟨nPr v + 1, ?_⟩⟩) (fun d => ⟨fun _ => ?_, fun h => absurd rfl h⟩)⟩) (fun c => ⟨fun _ => ?_, fun h => absurd rfl h⟩)
  · rw [cif_pos c, cif_pos d] at h
    rw [e3, e4]
    refine cp_L2 h1 h3 hAB (nPr v) 0 (by omega) ?_
    rw [fnd_cong (q := prB v a b) (fun k _ hk => pr_mm h1 h3 (by omega))]
    exact h
  · rw [cif_pos c, cif_neg d] at h; exact h
  · rw [cif_neg c] at h; exact h
theorem s_X6_pairOf {v : Nat} {a b : Int32} {A B : Nat → Int32} {Q : Int32 → Prop} (h1 : 1 ≤ v) (h3 : v ≤ 3) (hAB : ∀ k, k < nPr v → A k = nI (pA v k) ∧ B k = nI (pB v k)) (h : Q (A_pairOf v a b)) : wp_X6_pairOf a b (nI (nPol v)) (nI (nPr v)) A B Q := by
  unfold wp_X6_pairOf
  unfold A_pairOf at h
  refine s_X6_isPole (fun c => ⟨fun h => absurd h (by decide), fun _ => s_X6_isPole (fun d => ⟨fun h => absurd h (by decide), fun _ => ⟨nPr v + 1, ?_⟩⟩) (fun d => ⟨fun _ => ?_, fun h => absurd rfl h⟩)⟩) (fun c => ⟨fun _ => ?_, fun h => absurd rfl h⟩)
  · rw [cif_pos c, cif_pos d] at h
    exact pr_L20 h1 h3 hAB (nPr v) 0 (by omega) h
  · rw [cif_pos c, cif_neg d] at h; exact h
  · rw [cif_neg c] at h; exact h
/-! solutions -/
theorem s_X1_hasSolution {v : Nat} {s : Int32} {Q : Int32 → Prop} (h1 : 1 ≤ v) (h3 : v ≤ 3) (y : lessN (2 * nPr v) s → Q 1) (n : ¬ lessN (2 * nPr v) s → Q 0) : wp_X1_hasSolution s (nPr v) (nPol v) (nI (nPr v)) Q := by
  have hb := nPr_b h1 h3
  unfold wp_X1_hasSolution wp_X1_solutionCount
  rw [two_nI]
  refine ⟨fun c => n (fun h => ?_), fun c => ⟨fun c2 => n (fun h => ?_), fun c2 => y (lessN_of (by omega) (by grind) (by grind))⟩⟩
  · have := lessN_0 (by omega) h; grind
  · have := lessN_0 (by omega) h; grind
theorem s_X6_isSolution {v : Nat} {s : Int32} {Q : Int32 → Prop} (h1 : 1 ≤ v) (h3 : v ≤ 3) (y : lessN (2 * nPr v) s → Q 1) (n : ¬ lessN (2 * nPr v) s → Q 0) : wp_X6_isSolution s (nI (nPr v)) Q := by
  have hb := nPr_b h1 h3
  unfold wp_X6_isSolution
  rw [two_nI]
  refine s_X6_within (fun c => ⟨nb1, y (lessN_of (by omega) c.1 ((le_pred (by omega) (by omega)).mp c.2))⟩) (fun c => ⟨nb0, n (fun h => c ?_)⟩)
  have := lessN_0 (by omega) h
  exact ⟨this.1, (le_pred (by omega) (by omega)).mpr this.2⟩
noncomputable def A_signAt (v : Nat) (s x y z : Int32) : Int32 := cif (lessN (2 * nPr v) s) (cif (isTri x y z) (sg8 v s.toNatClampNeg x y z + 1) (-2)) (-1)
theorem s_X5_signAt {v ns nn : Nat} {s x y z : Int32} {X Y Z A B : Nat → Int32} {Q : Int32 → Prop} (h1 : 1 ≤ v) (h3 : v ≤ 3) (hg : geo v X Y Z A B) (h : Q (A_signAt v s x y z)) : wp_X5_signAt s x y z ns nn (nPr v) (nPol v) (nI (nPr v)) A B X Y Z Q := by
  unfold wp_X5_signAt
  unfold A_signAt at h
  refine s_X1_hasSolution h1 h3 (fun c => ⟨fun h => absurd h (by decide), fun _ => s_X5_isTriple (fun t => ⟨fun h => absurd h (by decide), fun _ => ?_⟩) (fun t => ⟨fun _ => ?_, fun h => absurd rfl h⟩)⟩) (fun c => ⟨fun _ => ?_, fun h => absurd rfl h⟩)
  · rw [cif_pos c, cif_pos t] at h
    rw [c.1]
    exact s_X1_signAlong h1 h3 hg c.2 h
  · rw [cif_pos c, cif_neg t] at h; exact h
  · rw [cif_neg c] at h; exact h
theorem s_X6_signAt {v : Nat} {s x y z : Int32} {X Y Z A B : Nat → Int32} {Q : Int32 → Prop} (h1 : 1 ≤ v) (h3 : v ≤ 3) (hg : geo v X Y Z A B) (h : Q (A_signAt v s x y z)) : wp_X6_signAt s x y z X Y Z (nI (nPr v)) A B Q := by
  unfold wp_X6_signAt
  unfold A_signAt at h
  refine s_X6_isSolution h1 h3 (fun c => ⟨fun h => absurd h (by decide), fun _ => s_X6_isTriple (fun t => ⟨fun h => absurd h (by decide), fun _ => ?_⟩) (fun t => ⟨fun _ => ?_, fun h => absurd rfl h⟩)⟩) (fun c => ⟨fun _ => ?_, fun h => absurd rfl h⟩)
  · rw [cif_pos c, cif_pos t] at h
    rw [c.1]
    exact s_X6_signHere h1 h3 hg c.2 h
  · rw [cif_pos c, cif_neg t] at h; exact h
  · rw [cif_neg c] at h; exact h
/-- what a row of planes holds of its axes -/
def axT (v : Nat) (O X Y Z S : Nat → Int32) : Prop := (∃ c, hold4 (axL v (nPr v)) c X Y Z S) ∧ ∀ k, k < nPr v → ∃ i : Nat, O k = nI i ∧ (axL v (nPr v))[i]? = some (aI v k)
noncomputable def A_axis (v : Nat) (s i : Int32) : Int32 := cif (lessN (2 * nPr v) s) (cif (i = 0) (Int32.ofInt (aI v (s.toNatClampNeg / 2)).1 + 100) (cif (i = 1) (Int32.ofInt (aI v (s.toNatClampNeg / 2)).2.1 + 100) (cif (i = 2) (Int32.ofInt (aI v (s.toNatClampNeg / 2)).2.2 + 100) (-2)))) (-1)
theorem axT.at {v k : Nat} {O X Y Z S : Nat → Int32} (h1 : 1 ≤ v) (h3 : v ≤ 3) (h : axT v O X Y Z S) (hk : k < nPr v) : ∃ i : Nat, O k = nI i ∧ i < nPr v ∧ (axL v (nPr v))[i]? = some (aI v k) ∧ X i = Int32.ofInt (aI v k).1 ∧ Y i = Int32.ofInt (aI v k).2.1 ∧ Z i = Int32.ofInt (aI v k).2.2 ∧ S i = Int32.ofInt (dotI (aI v k) (aI v k)) := by
  obtain ⟨⟨c, _, hh⟩, ho⟩ := h
  obtain ⟨i, e1, e2⟩ := ho k hk
  obtain ⟨g1, g2, g3, g4⟩ := hh i _ e2
  have hl := (List.getElem?_eq_some_iff.mp e2).1
  have := axL_len v (nPr v)
  exact ⟨i, e1, by omega, e2, g1, g2, g3, g4⟩
theorem s_X5_axis {v ns nn : Nat} {s i : Int32} {O X Y Z S : Nat → Int32} {Q : Int32 → Prop} (h1 : 1 ≤ v) (h3 : v ≤ 3) (ha : axT v O X Y Z S) (h : Q (A_axis v s i)) : wp_X5_axis s i ns nn (nPr v) (nPol v) (nI (nPr v)) O X Y Z Q := by
  have hb := nPr_b h1 h3
  unfold wp_X5_axis
  unfold A_axis at h
  refine s_X1_hasSolution h1 h3 (fun c => ⟨fun h => absurd h (by decide), fun _ => ?_⟩) (fun c => ⟨fun _ => ?_, fun h => absurd rfl h⟩)
  · rw [cif_pos c] at h
    have hk : s.toNatClampNeg / 2 < nPr v := by have := c.2; omega
    have e0 : s / 2 = nI (s.toNatClampNeg / 2) := by
      have := sol_half (s := s.toNatClampNeg) (by have := c.2; omega)
      rw [← c.1] at this
      exact this
    obtain ⟨j, e1, hj, _, g1, g2, g3, _⟩ := ha.at h1 h3 hk
    rw [e0, nI_clamp (n := s.toNatClampNeg / 2) (by omega), e1]
    obtain ⟨a, b, c, d⟩ := cif4 h
    refine ⟨vp_in_nI hk (by omega), fun x2 e2 => ?_⟩
    have i1 : vp_in (nI j) (nPr v) := vp_in_nI hj (by omega)
    rw [e2, nI_clamp (n := j) (by omega), g1, g2, g3]
    exact ⟨fun e => ⟨i1, a e⟩, fun e => ⟨i1, b e⟩, fun e => ⟨i1, c e⟩, d⟩
  · rw [cif_neg c] at h; exact h
theorem s_X6_axis {v : Nat} {s i x y z : Int32} {X Y Z A B : Nat → Int32} {Q : Int32 → Int32 → Int32 → Int32 → Prop} (h1 : 1 ≤ v) (h3 : v ≤ 3) (hg : geo v X Y Z A B) (h : ∀ x y z, Q (A_axis v s i) x y z) : wp_X6_axis s i X Y Z (nI (nPr v)) A B x y z Q := by
  unfold wp_X6_axis
  refine s_X6_isSolution h1 h3 (fun c => ⟨fun h => absurd h (by decide), fun _ => ?_⟩) (fun c => ⟨fun _ => ?_, fun h => absurd rfl h⟩)
  · rw [c.1]
    refine s_X6_findAxis h1 h3 hg.1 hg.2 c.2 ?_
    have h := h (Int32.ofInt (aI v (s.toNatClampNeg / 2)).1) (Int32.ofInt (aI v (s.toNatClampNeg / 2)).2.1) (Int32.ofInt (aI v (s.toNatClampNeg / 2)).2.2)
    unfold A_axis at h
    rw [cif_pos c] at h
    exact cif4 (Q := fun r => Q r _ _ _) h
  · have h := h x y z
    unfold A_axis at h
    rw [cif_neg c] at h; exact h
