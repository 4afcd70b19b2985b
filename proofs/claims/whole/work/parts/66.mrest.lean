/-! LEVEL 2: the model's other methods -/
abbrev QK : Type := Int32 → Int32 → Int32 → (Nat → Int32) → (Nat → Int32) → (Nat → Int32) → (Nat → Int32) → Int32 → Int32 → Int32 → Int32 → (Nat → Int32) → (Nat → Int32) → (Nat → Int32) → (Nat → Int64) → (Nat → Int64) → (Nat → Int32) → Prop
def okM (v : Nat) (σ : Nat → Nat → Int32) (e : Nat) (Q : QK) : Prop := ∀ kn ls kp M N O P x y z a UX UY UZ U D AO, (¬ kn = 0 → KN v σ e ls kp M N O P a UX UY UZ U D AO) → Q kn ls kp M N O P x y z a UX UY UZ U D AO
noncomputable def A_at (v : Nat) (σ : Nat → Nat → Int32) (e k : Nat) (s : Int32) : Int32 := cif (σ 4 k = 0) 0 (nI (kw v σ e (σ 1 k) (σ 2 k) (σ 3 k) s))
noncomputable def A_of (v : Nat) (σ : Nat → Nat → Int32) (e : Nat) (n i : Int32) : Int32 := cif (hasS σ n) (cif (i = 0) (σ 1 n.toNatClampNeg + 10) (cif (i = 1) (σ 2 n.toNatClampNeg + 10) (cif (i = 2) (σ 3 n.toNatClampNeg + 10) (cif (i = 3) (σ 4 n.toNatClampNeg + 1) (cif (i = 4) (σ 5 n.toNatClampNeg) (cif (i = 5) (A_at v σ e n.toNatClampNeg (-(σ 4 n.toNatClampNeg))) (cif (i = 6) (A_at v σ e n.toNatClampNeg 0) (-2)))))))) (-1)
noncomputable def A_sol (v : Nat) (σ : Nat → Nat → Int32) (e : Nat) (s i : Int32) : Int32 := cif (lessN (2 * nPr v) s) (cif (i = 0) (nI (mis v σ s.toNatClampNeg)) (cif (i = 1) (nI (nod v σ s.toNatClampNeg)) (cif (i = 2) (nI (agC v σ s.toNatClampNeg)) (cif (i = 3) (sg8 v s.toNatClampNeg 0 0 1 + 1) (cif (i = 4) (if kep v σ e s.toNatClampNeg = true then nI (plc v σ e s.toNatClampNeg) else -9) (-2)))))) (-1)
noncomputable def A_kept (v : Nat) (σ : Nat → Nat → Int32) (e : Nat) (k : Int32) : Int32 := cif (lessN (nKp v σ e) k) (nI (ordK v σ e k.toNatClampNeg)) (-1)
noncomputable def A_spread (v : Nat) (σ : Nat → Nat → Int32) (e : Nat) (w : Int32) : Int64 := cif (0 ≤ w ∧ w ≤ 1) (ltI2 (sprd v σ e) w) (-9223372036854775808)
noncomputable def A_fore (v : Nat) (σ : Nat → Nat → Int32) (e : Nat) (x y z s : Int32) : Int32 := cif (isTri x y z) (cif (-1 ≤ s ∧ s ≤ 1) (nI (kw v σ e x y z s)) (-2)) (-2)
noncomputable def A_many (v : Nat) (σ : Nat → Nat → Int32) (e : Nat) (i : Int32) : Int32 := cif (i = 0) (nI (cntS σ)) (cif (i = 1) (nI (nPol v)) (cif (i = 2) (nI (nPr v)) (cif (i = 3) (nI (nKp v σ e)) (cif (i = 4) (nI (lst v σ)) (cif (i = 5) (nI (uA v σ e).length) (cif (i = 6) (nI (kw v σ e 0 0 1 1)) (cif (i = 7) (nI (kw v σ e 0 0 1 (-1))) (cif (i = 8) (nI (kw v σ e 0 0 1 0)) (cif (i = 9) (nI (sumN σ 24)) (-2))))))))))
noncomputable def A_tell (v : Nat) (σ : Nat → Nat → Int32) (e : Nat) (w : Int32) : Int32 := cif (w = 0) (nI (lst v σ)) (nI (nKp v σ e))
noncomputable def A_without (v : Nat) (σ : Nat → Nat → Int32) (e : Nat) (n w : Int32) : Int32 := cif (hasS σ n) (cif (0 ≤ w ∧ w ≤ 1) (A_tell v (dropS σ n.toNatClampNeg) e w) (-2)) (-1)
def turnS (σ : Nat → Nat → Int32) (k : Nat) (s : Int32) : Nat → Nat → Int32 := mkS (σ 0) (σ 1) (σ 2) (σ 3) (upd (σ 4) k s) (σ 5)
noncomputable def A_turned (v : Nat) (σ : Nat → Nat → Int32) (e : Nat) (n w : Int32) : Int32 := cif (hasS σ n) (cif (0 ≤ w ∧ w ≤ 1) (cif (σ 4 n.toNatClampNeg = 0) (-3) (A_tell v (turnS σ n.toNatClampNeg (-(σ 4 n.toNatClampNeg))) e w)) (-2)) (-1)
section MR
variable {v e : Nat} {σ : Nat → Nat → Int32} {X Y Z A B M N O P AO UX UY UZ : Nat → Int32} {U D : Nat → Int64} {kn ls kp x y z a : Int32}
theorem s_X6_manyAt {n : Nat} {p1 : Int32} {Q : Int32 → QK} (h1 : 1 ≤ v) (h3 : v ≤ 3) (he : e ≤ 9) (hw : wfS σ) (hg : geo v X Y Z A B) (hk : ¬ kn = 0 → KN v σ e ls kp M N O P a UX UY UZ U D AO) (hn : n < 24) (h : okM v σ e (Q (A_at v σ e n (if p1 = 0 then 0 else -(σ 4 n))))) : wp_X6_manyAt (nI n) p1 (σ 0) (σ 1) (σ 2) (σ 3) (σ 4) (σ 5) (nI e) X Y Z (nI (nPr v)) A B kn ls kp M N O P x y z a UX UY UZ U D AO Q := by
  have hb := nPr_b h1 h3
  have hkl : nKp v σ e ≤ 2 * nPr v := ct_le _ _
  unfold wp_X6_manyAt
  refine s_X6_knows h1 h3 he hw hg hk (fun kn ls kp M N O P x y z a UX UY UZ U D AO hK => ?_)
  have hh := h kn ls kp M N O P x y z a UX UY UZ U D AO (fun _ => hK)
  obtain ⟨k1, k2, k3, k4, k5, k6⟩ := hK
  unfold A_at at hh
  rw [k2]
  by_cases c : σ 4 n = 0
  · rw [cif_pos c] at hh
    refine ⟨1, ?_⟩
    unfold wp_X6_manyAt_L9
    rw [nI_clamp (n := n) (by omega)]
    rw [k2] at hh
    exact ⟨fun _ => hh, fun _ => ⟨vp_in_nI hn (by decide), fun _ => hh, fun d => absurd c d⟩⟩
  · rw [cif_neg c, k2] at hh
    exact ⟨nKp v σ e + 1, ma_L9 h1 h3 hn hw hg k4.1 c (fun _ => hh) (nKp v σ e) 0 (by omega)⟩
theorem s_X6_ofStation {n i : Int32} {Q : Int32 → QK} (h1 : 1 ≤ v) (h3 : v ≤ 3) (he : e ≤ 9) (hw : wfS σ) (hg : geo v X Y Z A B) (hk : ¬ kn = 0 → KN v σ e ls kp M N O P a UX UY UZ U D AO) (h : okM v σ e (Q (A_of v σ e n i))) : wp_X6_ofStation n i (σ 0) (σ 1) (σ 2) (σ 3) (σ 4) (σ 5) (nI e) X Y Z (nI (nPr v)) A B kn ls kp M N O P x y z a UX UY UZ U D AO Q := by
  unfold wp_X6_ofStation
  unfold A_of at h
  refine s_X6_isStation (fun c => ⟨fun h => absurd h (by decide), fun _ => ?_⟩) (fun c => ⟨fun _ => ?_, fun h => absurd rfl h⟩)
  · rw [cif_pos c] at h
    have i1 := c.1.vp (by decide)
    obtain ⟨b0, b1, b2, b3, b4, b5, b6, b7⟩ := cif7c (Q := fun r => okM v σ e (Q r)) h
    have nw : ∀ {r : Int32}, okM v σ e (Q r) → Q r kn ls kp M N O P x y z a UX UY UZ U D AO := fun q => q _ _ _ _ _ _ _ _ _ _ _ _ _ _ _ _ _ hk
    refine ⟨fun e0 => ⟨i1, nw (b0 e0)⟩, fun e0 => ⟨i1, nw (b1 e0)⟩, fun e0 => ⟨i1, nw (b2 e0)⟩, fun e0 => ⟨i1, nw (b3 e0)⟩, fun e0 => ⟨i1, nw (b4 e0)⟩, fun e0 => ?_, fun e0 => ?_, fun f0 f1 f2 f3 f4 f5 f6 => nw (b7 f0 f1 f2 f3 f4 f5 f6)⟩
    · have q := s_X6_manyAt (x := x) (y := y) (z := z) (n := n.toNatClampNeg) (p1 := 1) (Q := Q) h1 h3 he hw hg hk c.1.2 (by rw [if_neg (by decide)]; exact b5 e0)
      rw [← c.1.1] at q
      exact q
    · have q := s_X6_manyAt (x := x) (y := y) (z := z) (n := n.toNatClampNeg) (p1 := 0) (Q := Q) h1 h3 he hw hg hk c.1.2 (by rw [if_pos rfl]; exact b6 e0)
      rw [← c.1.1] at q
      exact q
  · rw [cif_neg c] at h
    exact h _ _ _ _ _ _ _ _ _ _ _ _ _ _ _ _ _ hk
theorem s_X6_solution {s i : Int32} {Q : Int32 → QK} (h1 : 1 ≤ v) (h3 : v ≤ 3) (he : e ≤ 9) (hw : wfS σ) (hg : geo v X Y Z A B) (hk : ¬ kn = 0 → KN v σ e ls kp M N O P a UX UY UZ U D AO) (h : okM v σ e (Q (A_sol v σ e s i))) : wp_X6_solution s i (σ 0) (σ 1) (σ 2) (σ 3) (σ 4) (σ 5) (nI e) X Y Z (nI (nPr v)) A B kn ls kp M N O P x y z a UX UY UZ U D AO Q := by
  have hb := nPr_b h1 h3
  unfold wp_X6_solution
  unfold A_sol at h
  refine s_X6_isSolution h1 h3 (fun c => ⟨fun h => absurd h (by decide), fun _ => ?_⟩) (fun c => ⟨fun _ => ?_, fun h => absurd rfl h⟩)
  · rw [cif_pos c] at h
    have i1 : vp_in s 2320 := by rw [c.1]; exact vp_in_nI (by have := c.2; omega) (by decide)
    obtain ⟨b0, b1, b2, b3, b4, b5⟩ := cif5c (Q := fun r => okM v σ e (Q r)) h
    refine s_X6_knows h1 h3 he hw hg hk (fun kn ls kp M N O P x y z a UX UY UZ U D AO hK => ?_)
    have nw : ∀ {r : Int32}, okM v σ e (Q r) → Q r kn ls kp M N O P x y z a UX UY UZ U D AO := fun q => q _ _ _ _ _ _ _ _ _ _ _ _ _ _ _ _ _ (fun _ => hK)
    obtain ⟨k1, k2, k3, k4, k5, k6⟩ := hK
    rw [(k3 _ c.2).1, (k3 _ c.2).2, k4.2 _ c.2]
    refine ⟨fun e0 => ⟨i1, nw (b0 e0)⟩, fun e0 => ⟨i1, nw (b1 e0)⟩, fun e0 => ?_, fun e0 => ?_, fun e0 => ⟨i1, nw (b4 e0)⟩, fun f0 f1 f2 f3 f4 => nw (b5 f0 f1 f2 f3 f4)⟩
    · rw [c.1]; exact s_X6_against h1 h3 hg c.2 (nw (b2 e0))
    · rw [c.1]; exact s_X6_signHere h1 h3 hg c.2 (nw (b3 e0))
  · rw [cif_neg c] at h
    exact h _ _ _ _ _ _ _ _ _ _ _ _ _ _ _ _ _ hk
theorem s_X6_kept {k : Int32} {Q : Int32 → QK} (h1 : 1 ≤ v) (h3 : v ≤ 3) (he : e ≤ 9) (hw : wfS σ) (hg : geo v X Y Z A B) (hk : ¬ kn = 0 → KN v σ e ls kp M N O P a UX UY UZ U D AO) (h : okM v σ e (Q (A_kept v σ e k))) : wp_X6_kept k (σ 0) (σ 1) (σ 2) (σ 3) (σ 4) (σ 5) (nI e) X Y Z (nI (nPr v)) A B kn ls kp M N O P x y z a UX UY UZ U D AO Q := by
  have hb := nPr_b h1 h3
  have hkl : nKp v σ e ≤ 2 * nPr v := ct_le _ _
  have hk0 : 0 < nKp v σ e := nKp_pos h1 h3 hw
  unfold wp_X6_kept
  refine s_X6_knows h1 h3 he hw hg hk (fun kn ls kp M N O P x y z a UX UY UZ U D AO hK => ?_)
  have h := h kn ls kp M N O P x y z a UX UY UZ U D AO (fun _ => hK)
  obtain ⟨k1, k2, k3, k4, k5, k6⟩ := hK
  unfold A_kept at h
  rw [k2] at h ⊢
  refine s_X6_within (fun c => ⟨fun h => absurd h (by decide), fun _ => ?_⟩) (fun c => ⟨fun _ => ?_, fun h => absurd rfl h⟩)
  · have c := lessN_of (by omega) c.1 ((le_pred (by omega) hk0).mp c.2)
    rw [cif_pos c] at h
    rw [k4.1 _ c.2]
    exact ⟨by rw [c.1]; exact vp_in_nI (by have := c.2; omega) (by decide), h⟩
  · rw [cif_neg (fun d => c ?_)] at h
    · exact h
    · have := lessN_0 (by omega) d
      exact ⟨this.1, (le_pred (by omega) hk0).mpr this.2⟩
theorem s_X6_foretold {px py pz s : Int32} {Q : Int32 → QK} (h1 : 1 ≤ v) (h3 : v ≤ 3) (he : e ≤ 9) (hw : wfS σ) (hg : geo v X Y Z A B) (hk : ¬ kn = 0 → KN v σ e ls kp M N O P a UX UY UZ U D AO) (h : okM v σ e (Q (A_fore v σ e px py pz s))) : wp_X6_foretold px py pz s (σ 0) (σ 1) (σ 2) (σ 3) (σ 4) (σ 5) (nI e) X Y Z (nI (nPr v)) A B kn ls kp M N O P x y z a UX UY UZ U D AO Q := by
  unfold wp_X6_foretold
  unfold A_fore at h
  refine s_X6_isTriple (fun c => ⟨fun h => absurd h (by decide), fun _ => s_X6_within (fun d => ⟨fun h => absurd h (by decide), fun _ => ?_⟩) (fun d => ⟨fun _ => ?_, fun h => absurd rfl h⟩)⟩) (fun c => ⟨fun _ => ?_, fun h => absurd rfl h⟩)
  · rw [cif_pos c, cif_pos d] at h
    refine s_X6_knows h1 h3 he hw hg hk (fun kn ls kp M N O P x y z a UX UY UZ U D AO hK => ?_)
    have h := h kn ls kp M N O P x y z a UX UY UZ U D AO (fun _ => hK)
    obtain ⟨k1, k2, k3, k4, k5, k6⟩ := hK
    rw [k2] at h ⊢
    exact ⟨nKp v σ e + 1, fo_L32 h1 h3 hw hg k4.1 (fun _ => h) (nKp v σ e) 0 (by omega)⟩
  · rw [cif_pos c, cif_neg d] at h
    exact h _ _ _ _ _ _ _ _ _ _ _ _ _ _ _ _ _ hk
  · rw [cif_neg c] at h
    exact h _ _ _ _ _ _ _ _ _ _ _ _ _ _ _ _ _ hk
theorem fore_up {s : Int32} (hs : -1 ≤ s ∧ s ≤ 1) : A_fore v σ e 0 0 1 s = nI (kw v σ e 0 0 1 s) := by
  unfold A_fore
  rw [cif_pos (by unfold isTri; decide), cif_pos hs]
theorem s_X6_many {i : Int32} {Q : Int32 → QK} (h1 : 1 ≤ v) (h3 : v ≤ 3) (he : e ≤ 9) (hw : wfS σ) (hg : geo v X Y Z A B) (hk : ¬ kn = 0 → KN v σ e ls kp M N O P a UX UY UZ U D AO) (h : okM v σ e (Q (A_many v σ e i))) : wp_X6_many i (σ 0) (σ 1) (σ 2) (σ 3) (σ 4) (σ 5) (nI e) (nI (nPol v)) X Y Z (nI (nPr v)) A B kn ls kp M N O P x y z a UX UY UZ U D AO Q := by
  unfold wp_X6_many
  unfold A_many at h
  obtain ⟨b0, b1, b2, b3, b4, b5, b6, b7, b8, b9, b10⟩ := cif10c (Q := fun r => okM v σ e (Q r)) h
  refine s_X6_knows h1 h3 he hw hg hk (fun kn ls kp M N O P x y z a UX UY UZ U D AO hK => ?_)
  have nw : ∀ {r : Int32}, okM v σ e (Q r) → Q r kn ls kp M N O P x y z a UX UY UZ U D AO := fun q => q _ _ _ _ _ _ _ _ _ _ _ _ _ _ _ _ _ (fun _ => hK)
  refine ⟨fun e0 => s_X6_stations (nw (b0 e0)), fun e0 => nw (b1 e0), fun e0 => nw (b2 e0), fun e0 => ?_, fun e0 => ?_, fun e0 => ?_, fun e0 => ?_, fun e0 => ?_, fun e0 => ?_, fun e0 => s_X6_weights hw (nw (b9 e0)), fun f0 f1 f2 f3 f4 f5 f6 f7 f8 f9 => nw (b10 f0 f1 f2 f3 f4 f5 f6 f7 f8 f9)⟩
  · have q := nw (b3 e0); rw [← hK.2.1] at q; exact q
  · have q := nw (b4 e0); rw [← hK.1] at q; exact q
  · have q := nw (b5 e0)
    have e1 : a = nI (uA v σ e).length := hK.2.2.2.2.1.1
    rw [← e1] at q; exact q
  · exact s_X6_foretold h1 h3 he hw hg (fun _ => hK) (by rw [fore_up (by decide)]; exact b6 e0)
  · exact s_X6_foretold h1 h3 he hw hg (fun _ => hK) (by rw [fore_up (by decide)]; exact b7 e0)
  · exact s_X6_foretold h1 h3 he hw hg (fun _ => hK) (by rw [fore_up (by decide)]; exact b8 e0)
end MR
