/-! LEVEL 2: the model's spread, centre, without, turned, size, extra -/
section MS
variable {v e : Nat} {σ : Nat → Nat → Int32} {X Y Z A B M N O P AO UX UY UZ : Nat → Int32} {U D : Nat → Int64} {kn ls kp x y z a : Int32}
theorem f_lt {f g : Int × Int} (hf : okf f) (hg : okf g) : ¬ lg_cmp (Int64.ofInt f.1 * Int64.ofInt g.2) (Int64.ofInt g.1 * Int64.ofInt f.2) ≤ 0 ↔ g.1 * f.2 < f.1 * g.2 := by
  obtain ⟨f1, f2, f3, f4, _⟩ := hf
  obtain ⟨g1, g2, g3, g4, _⟩ := hg
  rw [← Int64.ofInt_mul, ← Int64.ofInt_mul, lg_le0, le64 (prod_b (by omega) (by omega)) (prod_b (by omega) (by omega))]
  omega
theorem sp_L21 {K : Int32 → Int32 → Prop} (h1 : 1 ≤ v) (h3 : v ≤ 3) (hw : wfS σ) (hf : fars v σ e (uA v σ e).length U D)
    (hK : ∀ w (b : Nat) (t : T3), (uA v σ e)[b]? = some t → fF v σ e t = sprd v σ e → K (nI b) w) :
    ∀ (r i b : Nat) (t : T3), i + r = (uA v σ e).length → (uA v σ e)[b]? = some t → ((uA v σ e).drop i).foldl (fun cur t => sp1 cur (fF v σ e t)) (fF v σ e t) = sprd v σ e → wp_X6_spread_L21 (nI (uA v σ e).length) U D K (r + 1) (nI b) (nI i) := by
  have hl := uA_len (v := v) (σ := σ) (e := e) h1 h3
  intro r
  induction r with
  | zero =>
    intro i b t hi hb hd
    unfold wp_X6_spread_L21
    rw [List.drop_of_length_le (by omega)] at hd
    exact ⟨fun _ => hK _ b t hb hd, fun h => absurd (nI_le (by omega) (by omega)) h⟩
  | succ r ih =>
    intro i b t hi hb hd
    have hil : i < (uA v σ e).length := by omega
    have hbl := (List.getElem?_eq_some_iff.mp hb).1
    have i1 : vp_in (nI i) 1160 := vp_in_nI (by omega) (by decide)
    have i2 : vp_in (nI b) 1160 := vp_in_nI (by omega) (by decide)
    have hu := List.getElem?_eq_getElem hil
    obtain ⟨x1, x2⟩ := hf i _ hil hu
    obtain ⟨y1, y2⟩ := hf b _ hbl hb
    have o1 := fF_ok (v := v) (e := e) hw (List.mem_of_getElem? hu)
    have o2 := fF_ok (v := v) (e := e) hw (List.mem_of_getElem? hb)
    rw [List.drop_eq_getElem_cons hil, List.foldl_cons] at hd
    unfold wp_X6_spread_L21
    rw [nI_clamp (n := i) (by omega), nI_clamp (n := b) (by omega), x1, x2, y1, y2, nI_1]
    refine ⟨fun h => absurd h (nI_ge (by omega) (by omega)), fun _ => ⟨i1, i2, i2, i1, fun c => ?_, fun c => ?_⟩⟩
    · have c2 : ¬ (fF v σ e t).1 * (fF v σ e (uA v σ e)[i]).2 < (fF v σ e (uA v σ e)[i]).1 * (fF v σ e t).2 := fun q => ((f_lt o1 o2).mpr q) c
      refine ih (i + 1) b t (by omega) hb ?_
      unfold sp1 at hd
      rw [if_neg c2] at hd
      exact hd
    · have c2 := (f_lt o1 o2).mp c
      refine ih (i + 1) i _ (by omega) hu ?_
      unfold sp1 at hd
      rw [if_pos c2] at hd
      exact hd
theorem sp1_0 {f : Int × Int} (hf : okf f) : sp1 (0, 1) f = f := by
  obtain ⟨f1, f2, f3, f4, f5⟩ := hf
  unfold sp1
  by_cases c : f.1 = 0
  · rw [f5 c]; rfl
  · rw [if_pos (by dsimp only; omega)]
theorem uA_pos (h1 : 1 ≤ v) (h3 : v ≤ 3) (hw : wfS σ) : 0 < (uA v σ e).length := by
  have hk0 : 0 < nKp v σ e := nKp_pos h1 h3 hw
  exact List.length_pos_of_mem (uL_mem (v := v) (σ := σ) (e := e) hk0)
theorem sprd_ok (h1 : 1 ≤ v) (h3 : v ≤ 3) (hw : wfS σ) : okf (sprd v σ e) := by
  have : ∀ (L : List T3) (c : Int × Int), okf c → (∀ t ∈ L, okf (fF v σ e t)) → okf (L.foldl (fun cur t => sp1 cur (fF v σ e t)) c) := by
    intro L
    induction L with
    | nil => intro c hc _; exact hc
    | cons t L ih =>
      intro c hc hL
      rw [List.foldl_cons]
      refine ih _ ?_ (fun u hu => hL u (by simp [hu]))
      unfold sp1
      split
      · exact hL t (by simp)
      · exact hc
  exact this _ _ okf_0 (fun t ht => fF_ok hw ht)
theorem s_X6_spread {w : Int32} {Q : Int64 → QK} (h1 : 1 ≤ v) (h3 : v ≤ 3) (he : e ≤ 9) (hw : wfS σ) (hg : geo v X Y Z A B) (hk : ¬ kn = 0 → KN v σ e ls kp M N O P a UX UY UZ U D AO) (h : okM v σ e (Q (A_spread v σ e w))) : wp_X6_spread w (σ 0) (σ 1) (σ 2) (σ 3) (σ 4) (σ 5) (nI e) X Y Z (nI (nPr v)) A B kn ls kp M N O P x y z a UX UY UZ U D AO Q := by
  have hl := uA_len (v := v) (σ := σ) (e := e) h1 h3
  have hp := uA_pos (v := v) (e := e) h1 h3 hw
  unfold wp_X6_spread
  unfold A_spread at h
  refine s_X6_within (fun c => ⟨fun h => absurd h (by decide), fun _ => ?_⟩) (fun c => ⟨fun _ => ?_, fun h => absurd rfl h⟩)
  · rw [cif_pos c] at h
    refine s_X6_knows h1 h3 he hw hg hk (fun kn ls kp M N O P x y z a UX UY UZ U D AO hK => ?_)
    have h := h kn ls kp M N O P x y z a UX UY UZ U D AO (fun _ => hK)
    obtain ⟨k1, k2, k3, k4, k5, k6⟩ := hK
    have e1 : a = nI (uA v σ e).length := k5.1
    refine ⟨(uA v σ e).length - 1 + 1, ?_⟩
    rw [e1] at h ⊢
    have h0 := List.getElem?_eq_getElem hp
    refine sp_L21 h1 h3 hw k6 ?_ ((uA v σ e).length - 1) 1 0 _ (by omega) h0 ?_
    · intro w2 b t hb ht
      have hbl := (List.getElem?_eq_some_iff.mp hb).1
      have i2 : vp_in (nI b) 1160 := vp_in_nI (by omega) (by decide)
      obtain ⟨y1, y2⟩ := k6 b _ hbl hb
      obtain ⟨f1, f2, f3, f4, _⟩ := sprd_ok (v := v) (e := e) h1 h3 hw
      rw [nI_clamp (n := b) (by omega), y1, y2, ht, (n_of f1).2, (n_of (Int.le_of_lt f3)).2]
      exact ⟨i2, i2, s_X6_inLeastTerms (by omega) (by omega) (by omega) h⟩
    · have o1 := fF_ok (v := v) (e := e) hw (List.mem_of_getElem? h0)
      have : (uA v σ e) = (uA v σ e)[0] :: (uA v σ e).drop 1 := by rw [← List.drop_eq_getElem_cons hp]; rfl
      unfold sprd
      conv => rhs; rw [this]
      rw [List.foldl_cons, sp1_0 o1]
  · rw [cif_neg c] at h
    exact h _ _ _ _ _ _ _ _ _ _ _ _ _ _ _ _ _ hk
theorem ce_L8 {K : Int32 → Int32 → Prop} (h1 : 1 ≤ v) (h3 : v ≤ 3) (hw : wfS σ) (hU : tabU v σ e (nKp v σ e) a UX UY UZ AO) (hf : fars v σ e (uA v σ e).length U D)
    (hK : ∀ w, K (nI (mcen v σ e (nKp v σ e - 1)).2) w) :
    ∀ (r k : Nat), k + 1 + r = nKp v σ e → wp_X6_centre_L8 (nI (nKp v σ e)) U D AO K (r + 1) (nI (mcen v σ e k).2) (nI (k + 1)) := by
  have hb := nPr_b h1 h3
  have hl := uA_len (v := v) (σ := σ) (e := e) h1 h3
  have hkl : nKp v σ e ≤ 2 * nPr v := ct_le _ _
  intro r
  induction r with
  | zero =>
    intro k hk
    unfold wp_X6_centre_L8
    have e1 : nKp v σ e - 1 = k := by omega
    rw [e1] at hK
    exact ⟨fun _ => hK _, fun h => absurd (nI_le (by omega) (by omega)) h⟩
  | succ r ih =>
    intro k hk
    obtain ⟨m1, m2, m3, m4⟩ := mcen_ok (v := v) (e := e) hw k (by omega)
    have nx := ih (k + 1) (by omega)
    rw [mcen] at nx
    have i1 : vp_in (nI (k + 1)) 2320 := vp_in_nI (by omega) (by decide)
    have i2 : vp_in (nI (mcen v σ e k).2) 2320 := vp_in_nI (by omega) (by decide)
    obtain ⟨j1, a1, b1⟩ := hU.2.2 (k + 1) (by omega)
    obtain ⟨j2, a2, b2⟩ := hU.2.2 (mcen v σ e k).2 (by omega)
    have l1 := (List.getElem?_eq_some_iff.mp b1).1
    have l2 := (List.getElem?_eq_some_iff.mp b2).1
    have hle : (uL v σ e (nKp v σ e)).length ≤ 1160 := hl
    obtain ⟨x1, x2⟩ := hf j1 _ l1 b1
    obtain ⟨y1, y2⟩ := hf j2 _ l2 b2
    have o1 := fF_ok (v := v) (e := e) hw (List.mem_of_getElem? b1)
    have i3 : vp_in (nI j1) 1160 := vp_in_nI (by omega) (by decide)
    have i4 : vp_in (nI j2) 1160 := vp_in_nI (by omega) (by decide)
    unfold wp_X6_centre_L8
    rw [nI_clamp (n := k + 1) (by omega), nI_clamp (n := (mcen v σ e k).2) (by omega), a1, a2, nI_1]
    refine ⟨fun h => absurd h (nI_ge (by omega) (by omega)), fun _ => ⟨i1, fun q1 e1 => ⟨i2, fun q2 e2 => ?_⟩⟩⟩
    rw [e1, e2, nI_clamp (n := j1) (by omega), nI_clamp (n := j2) (by omega), x1, x2, y1, y2, ← m3]
    obtain ⟨f1, f2, f3, f4, _⟩ := o1
    obtain ⟨g1, g2, g3, g4, _⟩ := m1
    rw [← Int64.ofInt_mul, ← Int64.ofInt_mul, lg_ge0, le64 (prod_b (by omega) (by omega)) (prod_b (by omega) (by omega))]
    refine ⟨i3, i4, i4, i3, fun c => ?_, fun c => ?_⟩
    · rw [if_neg (by omega)] at nx; exact nx
    · rw [if_pos (by omega)] at nx; exact nx
theorem s_X6_centre {Q : Int32 → QK} (h1 : 1 ≤ v) (h3 : v ≤ 3) (he : e ≤ 9) (hw : wfS σ) (hg : geo v X Y Z A B) (hk : ¬ kn = 0 → KN v σ e ls kp M N O P a UX UY UZ U D AO) (h : okM v σ e (Q (nI (cenS v σ e)))) : wp_X6_centre (σ 0) (σ 1) (σ 2) (σ 3) (σ 4) (σ 5) (nI e) X Y Z (nI (nPr v)) A B kn ls kp M N O P x y z a UX UY UZ U D AO Q := by
  have hb := nPr_b h1 h3
  have hkl : nKp v σ e ≤ 2 * nPr v := ct_le _ _
  have hk0 : 0 < nKp v σ e := nKp_pos h1 h3 hw
  unfold wp_X6_centre
  refine s_X6_knows h1 h3 he hw hg hk (fun kn ls kp M N O P x y z a UX UY UZ U D AO hK => ?_)
  have h := h kn ls kp M N O P x y z a UX UY UZ U D AO (fun _ => hK)
  obtain ⟨k1, k2, k3, k4, k5, k6⟩ := hK
  rw [k2] at h ⊢
  refine ⟨nKp v σ e - 1 + 1, ce_L8 h1 h3 hw k5 k6 (fun w => ?_) (nKp v σ e - 1) 0 (by omega)⟩
  obtain ⟨m1, m2, m3, m4⟩ := mcen_ok (v := v) (e := e) hw (nKp v σ e - 1) (by omega)
  rw [nI_clamp (n := (mcen v σ e (nKp v σ e - 1)).2) (by omega), k4.1 _ (by omega)]
  exact ⟨vp_in_nI (by omega) (by decide), h⟩
theorem s_X6_tell {w : Int32} {Q : Int32 → Int32 → Int32 → Int32 → (Nat → Int32) → (Nat → Int32) → Prop} (h1 : 1 ≤ v) (h3 : v ≤ 3) (he : e ≤ 9) (hw : wfS σ) (hg : geo v X Y Z A B) (h : ∀ ls kp M N, Q (A_tell v σ e w) 0 ls kp M N) : wp_X6_tellMeasures w (σ 0) (σ 1) (σ 2) (σ 3) (σ 4) (σ 5) (nI e) X Y Z (nI (nPr v)) A B kn ls kp M N Q := by
  unfold wp_X6_tellMeasures
  refine s_X6_measures h1 h3 he hw hg (fun M' N' hT => ?_)
  unfold A_tell at h
  refine ⟨fun c => ?_, fun c => ?_⟩
  · rw [cif_pos c] at h; exact h _ _ _ _
  · rw [cif_neg c] at h; exact h _ _ _ _
theorem wf_turnS {k : Nat} {s : Int32} (hw : wfS σ) (hs : s = -1 ∨ s = 0 ∨ s = 1) : wfS (turnS σ k s) := by
  intro j hj
  obtain ⟨h1, h2, w, h3, h4⟩ := hw j hj
  refine ⟨h1, ?_, w, h3, h4⟩
  show upd _ _ _ j = -1 ∨ upd _ _ _ j = 0 ∨ upd _ _ _ j = 1
  by_cases d : j = k
  · subst d; rw [pk_us]; exact hs
  · rw [pk_un d]; exact h2
theorem upd_upd (f : Nat → Int32) (n : Nat) (p q : Int32) : upd (upd f n p) n q = upd f n q := by
  funext j
  by_cases c : j = n
  · subst c; rw [pk_us, pk_us]
  · rw [pk_un c, pk_un c, pk_un c]
theorem s_X6_without {n w : Int32} {Q : Int32 → (Nat → Int32) → Int32 → Int32 → Int32 → (Nat → Int32) → (Nat → Int32) → Prop} (h1 : 1 ≤ v) (h3 : v ≤ 3) (he : e ≤ 9) (hw : wfS σ) (hg : geo v X Y Z A B) (h : ∀ kn' ls' kp' M' N', (kn' = 0 ∨ (kn' = kn ∧ ls' = ls ∧ kp' = kp ∧ M' = M ∧ N' = N)) → Q (A_without v σ e n w) (σ 0) kn' ls' kp' M' N') : wp_X6_without n w (σ 0) (σ 1) (σ 2) (σ 3) (σ 4) (σ 5) (nI e) X Y Z (nI (nPr v)) A B kn ls kp M N Q := by
  unfold wp_X6_without
  unfold A_without at h
  refine s_X6_isStation (fun c => ⟨fun h => absurd h (by decide), fun _ => s_X6_within (fun d => ⟨fun h => absurd h (by decide), fun _ => ⟨c.1.vp (by decide), ?_⟩⟩) (fun d => ⟨fun _ => ?_, fun h => absurd rfl h⟩)⟩) (fun c => ⟨fun _ => ?_, fun h => absurd rfl h⟩)
  · rw [cif_pos c, cif_pos d] at h
    refine s_X6_tell (σ := dropS σ n.toNatClampNeg) h1 h3 he (wf_dropS hw) hg (fun ls kp M N => ⟨c.1.vp (by decide), ?_⟩)
    have e1 : σ 0 n.toNatClampNeg = 1 := by
      rcases (hw _ c.1.2).1 with q | q
      · exact absurd q c.2
      · exact q
    rw [upd_upd, ← e1, upd_self]
    exact h _ _ _ _ _ (Or.inl rfl)
  · rw [cif_pos c, cif_neg d] at h; exact h _ _ _ _ _ (Or.inr ⟨rfl, rfl, rfl, rfl, rfl⟩)
  · rw [cif_neg c] at h; exact h _ _ _ _ _ (Or.inr ⟨rfl, rfl, rfl, rfl, rfl⟩)
theorem neg3 {s : Int32} (h : s = -1 ∨ s = 0 ∨ s = 1) : (-s = -1 ∨ -s = 0 ∨ -s = 1) ∧ -(-s) = s := by
  rcases h with h | h | h <;> subst h <;> decide
theorem s_X6_turned {n w : Int32} {Q : Int32 → (Nat → Int32) → Int32 → Int32 → Int32 → (Nat → Int32) → (Nat → Int32) → Prop} (h1 : 1 ≤ v) (h3 : v ≤ 3) (he : e ≤ 9) (hw : wfS σ) (hg : geo v X Y Z A B) (h : ∀ kn' ls' kp' M' N', (kn' = 0 ∨ (kn' = kn ∧ ls' = ls ∧ kp' = kp ∧ M' = M ∧ N' = N)) → Q (A_turned v σ e n w) (σ 4) kn' ls' kp' M' N') : wp_X6_turned n w (σ 0) (σ 1) (σ 2) (σ 3) (σ 4) (σ 5) (nI e) X Y Z (nI (nPr v)) A B kn ls kp M N Q := by
  unfold wp_X6_turned
  unfold A_turned at h
  refine s_X6_isStation (fun c => ⟨fun h => absurd h (by decide), fun _ => s_X6_within (fun d => ⟨fun h => absurd h (by decide), fun _ => ⟨c.1.vp (by decide), fun t => ?_, fun t => ⟨c.1.vp (by decide), fun x3 e3 => ⟨c.1.vp (by decide), ?_⟩⟩⟩⟩) (fun d => ⟨fun _ => ?_, fun h => absurd rfl h⟩)⟩) (fun c => ⟨fun _ => ?_, fun h => absurd rfl h⟩)
  · rw [cif_pos c, cif_pos d, cif_pos t] at h; exact h _ _ _ _ _ (Or.inr ⟨rfl, rfl, rfl, rfl, rfl⟩)
  · rw [cif_pos c, cif_pos d, cif_neg t] at h
    have t3 := (hw _ c.1.2).2.1
    rw [e3]
    refine s_X6_tell (σ := turnS σ n.toNatClampNeg (-(σ 4 n.toNatClampNeg))) h1 h3 he (wf_turnS hw (neg3 t3).1) hg (fun ls kp M N => ⟨c.1.vp (by decide), fun x10 e10 => ⟨c.1.vp (by decide), ?_⟩⟩)
    rw [upd_upd, e10, pk_us, (neg3 t3).2, upd_self]
    exact h _ _ _ _ _ (Or.inl rfl)
  · rw [cif_pos c, cif_neg d] at h; exact h _ _ _ _ _ (Or.inr ⟨rfl, rfl, rfl, rfl, rfl⟩)
  · rw [cif_neg c] at h; exact h _ _ _ _ _ (Or.inr ⟨rfl, rfl, rfl, rfl, rfl⟩)
end MS
/-! size, extra: the answer and the state behind -/
noncomputable def F_extra (e : Nat) (p : Int32) : Int32 × Nat := cif (0 ≤ p ∧ p ≤ 9) (nI e, p.toNatClampNeg) (-2, e)
theorem ex_le {e : Nat} {p : Int32} (he : e ≤ 9) : (F_extra e p).2 ≤ 9 := by
  unfold F_extra
  by_cases c : 0 ≤ p ∧ p ≤ 9
  · rw [cif_pos c]
    obtain ⟨h1, h2⟩ := nat_of c.1
    have := c.2
    rw [h1] at this
    exact (nI_leI h2 (by decide)).mp (show nI _ ≤ nI 9 from this)
  · rw [cif_neg c]; exact he
theorem s_X5_extra {e : Nat} {p w : Int32} {Q : Int32 → Int32 → Int32 → Prop} (h : ∀ w', ((w' = w ∧ (F_extra e p).2 = e) ∨ w' = w + 1) → Q (F_extra e p).1 (nI (F_extra e p).2) w') : wp_X5_extra p (nI e) w Q := by
  unfold wp_X5_extra
  unfold F_extra at h
  by_cases c : 0 ≤ p ∧ p ≤ 9
  · rw [cif_pos c] at h
    have e1 := (nat_of c.1).1
    refine ⟨fun d => absurd d (by grind), fun _ => ⟨fun _ x1 e0 => ?_, fun d => absurd d (by grind)⟩⟩
    have := h x1 (Or.inr e0)
    rw [← e1] at this
    exact this
  · rw [cif_neg c] at h
    have hh := h w (Or.inl ⟨rfl, rfl⟩)
    exact ⟨fun _ => hh, fun d => ⟨fun d2 => absurd (by grind) c, fun _ => hh⟩⟩
theorem s_X6_extra {e : Nat} {p w : Int32} {Q : Int32 → Int32 → Int32 → Prop} (h : ∀ w', ((w' = w ∧ (F_extra e p).2 = e) ∨ w' = 0) → Q (F_extra e p).1 (nI (F_extra e p).2) w') : wp_X6_extra p (nI e) w Q := by
  unfold wp_X6_extra
  unfold F_extra at h
  refine s_X6_within (fun c => ⟨fun h => absurd h (by decide), fun _ => ?_⟩) (fun c => ⟨fun _ => ?_, fun h => absurd rfl h⟩)
  · rw [cif_pos c] at h
    have := h 0 (Or.inr rfl)
    rw [← (nat_of c.1).1] at this
    exact this
  · rw [cif_neg c] at h
    exact h w (Or.inl ⟨rfl, rfl⟩)
def isV (p : Int32) : Prop := 1 ≤ p ∧ p ≤ 3
theorem isV_n {p : Int32} (h : isV p) : p = nI p.toNatClampNeg ∧ 1 ≤ p.toNatClampNeg ∧ p.toNatClampNeg ≤ 3 := by
  obtain ⟨e1, e2⟩ := nat_of (x := p) (by have := h.1; grind)
  have a := h.1
  have b := h.2
  rw [e1] at a b
  exact ⟨e1, (nI_leI (by decide) e2).mp (show nI 1 ≤ _ from a), (nI_leI e2 (by decide)).mp (show _ ≤ nI 3 from b)⟩
noncomputable def F_size (v : Nat) (p : Int32) : Int32 × Nat := cif (isV p) (nI v, p.toNatClampNeg) (-2, v)
theorem sz_ok {v : Nat} {p : Int32} (h1 : 1 ≤ v) (h3 : v ≤ 3) : 1 ≤ (F_size v p).2 ∧ (F_size v p).2 ≤ 3 := by
  unfold F_size
  by_cases c : isV p
  · rw [cif_pos c]; exact (isV_n c).2
  · rw [cif_neg c]; exact ⟨h1, h3⟩
theorem s_X6_size {v : Nat} {p kn : Int32} {X Y Z A B : Nat → Int32} {Q : Int32 → Int32 → Int32 → (Nat → Int32) → (Nat → Int32) → (Nat → Int32) → Int32 → (Nat → Int32) → (Nat → Int32) → Int32 → Prop} (hg : geo v X Y Z A B) (h : ∀ X Y Z A B kn', ((kn' = kn ∧ (F_size v p).2 = v) ∨ kn' = 0) → geo (F_size v p).2 X Y Z A B → Q (F_size v p).1 (nI (F_size v p).2) (nI (nPol (F_size v p).2)) X Y Z (nI (nPr (F_size v p).2)) A B kn') : wp_X6_size p (nI v) (nI (nPol v)) X Y Z (nI (nPr v)) A B kn Q := by
  unfold wp_X6_size
  unfold F_size at h
  refine s_X6_within (fun c => ⟨fun h => absurd h (by decide), fun _ => ?_⟩) (fun c => ⟨fun _ => ?_, fun h => absurd rfl h⟩)
  · rw [cif_pos (show isV p from c)] at h
    obtain ⟨e1, e2, e3⟩ := isV_n c
    rw [e1]
    refine s_X6_makePoles e2 e3 ?_
    intro X' Y' Z' A' B' hT hAB
    exact h X' Y' Z' A' B' 0 (Or.inr rfl) ⟨hT, hAB⟩
  · rw [cif_neg (show ¬ isV p from c)] at h
    exact h X Y Z A B kn (Or.inl ⟨rfl, rfl⟩) hg
