/-! LEVEL 2: the methods that change stations, look up poles and pairs; both classes -/
noncomputable def cif {α : Type} (p : Prop) (a b : α) : α := @ite α p (Classical.propDecidable p) a b
theorem cif_pos {α : Type} {p : Prop} {a b : α} (h : p) : cif p a b = a := if_pos h
theorem cif_neg {α : Type} {p : Prop} {a b : α} (h : ¬ p) : cif p a b = b := if_neg h
def mkS (a b c d f g : Nat → Int32) : Nat → Nat → Int32
  | 0 => a
  | 1 => b
  | 2 => c
  | 3 => d
  | 4 => f
  | 5 => g
  | _ => fun _ => 0
theorem upd_self (f : Nat → Int32) (n : Nat) : upd f n (f n) = f := by
  funext j
  by_cases c : j = n
  · subst c; exact pk_us
  · exact pk_un c
theorem nat_of {x : Int32} (h : 0 ≤ x) : x = nI x.toNatClampNeg ∧ x.toNatClampNeg < 2 ^ 31 := by
  have e := pos_ab h
  have hl : ab x < 2 ^ 31 := ab_lt (by rw [Int32.le_iff_toInt_le] at h; have : (0 : Int32).toInt = 0 := rfl; omega)
  have e2 : x.toNatClampNeg = ab x := by
    have := nI_clamp hl
    rw [← e] at this
    exact this
  rw [e2]
  exact ⟨e, hl⟩
/-- a number below m, told as one -/
def lessN (m : Nat) (x : Int32) : Prop := x = nI x.toNatClampNeg ∧ x.toNatClampNeg < m
theorem lessN_of {m : Nat} {x : Int32} (hm : m < 2 ^ 31) (h0 : 0 ≤ x) (h : x < nI m) : lessN m x := by
  obtain ⟨e, hl⟩ := nat_of h0
  refine ⟨e, ?_⟩
  rw [e] at h
  exact (nI_ltI hl hm).mp h
theorem lessN_0 {m : Nat} {x : Int32} (hm : m < 2 ^ 31) (h : lessN m x) : 0 ≤ x ∧ x < nI m := by
  obtain ⟨e, hl⟩ := h
  rw [e]
  exact ⟨by rw [← nI_0]; exact nI_le (by omega) (by omega), nI_lt hl hm⟩
theorem le_pred {m : Nat} {x : Int32} (hm : m < 2 ^ 31) (h0 : 0 < m) : x ≤ nI m - 1 ↔ x < nI m := by
  have e1 : (nI m).toInt = m := by unfold nI; exact Int32.toInt_ofNat_of_lt hm
  have e2 : nI m - 1 = nI (m - 1) := by
    have := nI_1 (m - 1)
    rw [show m - 1 + 1 = m by omega] at this
    rw [← this]
    grind
  have e3 : (nI (m - 1)).toInt = ((m - 1 : Nat) : Int) := by unfold nI; exact Int32.toInt_ofNat_of_lt (by omega)
  rw [e2, Int32.le_iff_toInt_le, Int32.lt_iff_toInt_lt, e1, e3]
  omega
def hasS (σ : Nat → Nat → Int32) (n : Int32) : Prop := lessN 24 n ∧ ¬ σ 0 n.toNatClampNeg = 0
theorem in24 {n : Int32} : (0 ≤ n ∧ n ≤ 23) ↔ lessN 24 n := by
  constructor
  · intro h
    exact lessN_of (by decide) h.1 (by have : nI 24 = 24 := rfl; rw [this]; have := h.2; grind)
  · intro h
    have := lessN_0 (by decide) h
    refine ⟨this.1, ?_⟩
    have h2 := this.2
    have e : nI 24 = 24 := rfl
    rw [e] at h2
    grind
theorem lessN.vp {m : Nat} {x : Int32} (h : lessN m x) (hm : m < 2 ^ 31) : vp_in x m := by
  rw [h.1]; exact vp_in_nI h.2 hm
theorem s_X4_has {σ : Nat → Nat → Int32} {n : Int32} {Q : Int32 → Prop} (h1 : hasS σ n → Q 1) (h0 : ¬ hasS σ n → Q 0) : wp_X4_has n (σ 0) Q := by
  unfold wp_X4_has
  refine ⟨fun c => h0 (fun h => ?_), fun c => ⟨fun c2 => h0 (fun h => ?_), fun c2 => ?_⟩⟩
  · have := (in24.mpr h.1).1; grind
  · have := (in24.mpr h.1).2; grind
  · have hn : lessN 24 n := in24.mp (by grind)
    exact ⟨hn.vp (by decide), fun c3 => h0 (fun h => h.2 c3), fun c3 => h1 ⟨hn, c3⟩⟩
theorem s_X6_isStation {σ : Nat → Nat → Int32} {n : Int32} {Q : Int32 → Prop} (h1 : hasS σ n → Q 1) (h0 : ¬ hasS σ n → Q 0) : wp_X6_isStation n (σ 0) Q := by
  unfold wp_X6_isStation
  refine s_X6_within (fun c => ⟨fun h => absurd h (by decide), fun _ => ?_⟩) (fun c => ⟨fun _ => h0 (fun h => c (in24.mpr h.1)), fun h => absurd rfl h⟩)
  have hn : lessN 24 n := in24.mp c
  exact ⟨hn.vp (by decide), fun c3 => h0 (fun h => h.2 c3), fun c3 => h1 ⟨hn, c3⟩⟩
abbrev FS : Type := Int32 × (Nat → Nat → Int32)
noncomputable def F_station (σ : Nat → Nat → Int32) (n x y z : Int32) : FS := cif (lessN 24 n) (cif (isTri x y z) (cif (σ 0 n.toNatClampNeg = 0) 0 1, mkS (upd (σ 0) n.toNatClampNeg 1) (upd (σ 1) n.toNatClampNeg x) (upd (σ 2) n.toNatClampNeg y) (upd (σ 3) n.toNatClampNeg z) (upd (σ 4) n.toNatClampNeg 0) (upd (σ 5) n.toNatClampNeg 1)) (-2, σ)) (-1, σ)
theorem s_X5_station {σ : Nat → Nat → Int32} {n x y z w : Int32} {Q : Int32 → Int32 → (Nat → Int32) → (Nat → Int32) → (Nat → Int32) → (Nat → Int32) → (Nat → Int32) → (Nat → Int32) → Prop} (h : ∀ w', ((w' = w ∧ (F_station σ n x y z).2 = σ) ∨ w' = w + 1) → Q (F_station σ n x y z).1 w' ((F_station σ n x y z).2 0) ((F_station σ n x y z).2 1) ((F_station σ n x y z).2 2) ((F_station σ n x y z).2 3) ((F_station σ n x y z).2 4) ((F_station σ n x y z).2 5)) : wp_X5_station n x y z w (σ 0) (σ 1) (σ 2) (σ 3) (σ 4) (σ 5) Q := by
  unfold wp_X5_station
  unfold F_station at h
  by_cases c : lessN 24 n
  · have cc := in24.mpr c
    have i1 := c.vp (by decide)
    rw [cif_pos c] at h
    refine ⟨fun d => absurd d (by grind), fun _ => ⟨fun _ => s_X5_isTriple (fun t => ⟨fun h => absurd h (by decide), fun _ => ⟨i1, fun c3 => ?_, fun c3 => ?_⟩⟩) (fun t => ⟨fun _ => ?_, fun h => absurd rfl h⟩), fun d => absurd d (by grind)⟩⟩
    · rw [cif_pos t, cif_pos c3] at h
      exact ⟨i1, i1, i1, i1, i1, i1, fun x8 e8 => h x8 (Or.inr e8)⟩
    · rw [cif_pos t, cif_neg c3] at h
      exact ⟨i1, i1, i1, i1, i1, i1, fun x8 e8 => h x8 (Or.inr e8)⟩
    · rw [cif_neg t] at h
      exact h w (Or.inl ⟨rfl, rfl⟩)
  · rw [cif_neg c] at h
    have hh := h w (Or.inl ⟨rfl, rfl⟩)
    refine ⟨fun _ => hh, fun d => ⟨fun d2 => absurd (in24.mp (by grind)) c, fun _ => hh⟩⟩
theorem s_X6_station {σ : Nat → Nat → Int32} {n x y z w : Int32} {Q : Int32 → (Nat → Int32) → (Nat → Int32) → (Nat → Int32) → (Nat → Int32) → (Nat → Int32) → (Nat → Int32) → Int32 → Prop} (h : ∀ w', ((w' = w ∧ (F_station σ n x y z).2 = σ) ∨ w' = 0) → Q (F_station σ n x y z).1 ((F_station σ n x y z).2 0) ((F_station σ n x y z).2 1) ((F_station σ n x y z).2 2) ((F_station σ n x y z).2 3) ((F_station σ n x y z).2 4) ((F_station σ n x y z).2 5) w') : wp_X6_station n x y z (σ 0) (σ 1) (σ 2) (σ 3) (σ 4) (σ 5) w Q := by
  unfold wp_X6_station
  unfold F_station at h
  refine s_X6_within (fun c => ⟨fun h => absurd h (by decide), fun _ => ?_⟩) (fun c => ⟨fun _ => ?_, fun h => absurd rfl h⟩)
  · have c := in24.mp c
    have i1 := c.vp (by decide)
    rw [cif_pos c] at h
    refine s_X6_isTriple (fun t => ⟨fun h => absurd h (by decide), fun _ => ⟨i1, fun c3 => ?_, fun c3 => ?_⟩⟩) (fun t => ⟨fun _ => ?_, fun h => absurd rfl h⟩)
    · rw [cif_pos t, cif_pos c3] at h
      exact ⟨i1, i1, i1, i1, i1, i1, h 0 (Or.inr rfl)⟩
    · rw [cif_pos t, cif_neg c3] at h
      exact ⟨i1, i1, i1, i1, i1, i1, h 0 (Or.inr rfl)⟩
    · rw [cif_neg t] at h
      exact h w (Or.inl ⟨rfl, rfl⟩)
  · rw [cif_neg (fun d => c (in24.mpr d))] at h
    exact h w (Or.inl ⟨rfl, rfl⟩)
noncomputable def F_sign (σ : Nat → Nat → Int32) (n s : Int32) : FS := cif (hasS σ n) (cif (-1 ≤ s ∧ s ≤ 1) (σ 4 n.toNatClampNeg + 1, mkS (σ 0) (σ 1) (σ 2) (σ 3) (upd (σ 4) n.toNatClampNeg s) (σ 5)) (-2, σ)) (-1, σ)
theorem s_X5_sign {σ : Nat → Nat → Int32} {n s w : Int32} {Q : Int32 → Int32 → (Nat → Int32) → Prop} (h : ∀ w', ((w' = w ∧ (F_sign σ n s).2 = σ) ∨ w' = w + 1) → Q (F_sign σ n s).1 w' ((F_sign σ n s).2 4)) : wp_X5_sign n s w (σ 0) (σ 4) Q := by
  unfold wp_X5_sign
  unfold F_sign at h
  refine s_X4_has (fun c => ⟨fun h => absurd h (by decide), fun _ => ?_⟩) (fun c => ⟨fun _ => ?_, fun h => absurd rfl h⟩)
  · have i1 := c.1.vp (by decide)
    rw [cif_pos c] at h
    by_cases t : -1 ≤ s ∧ s ≤ 1
    · rw [cif_pos t] at h
      exact ⟨fun d => absurd d (by grind), fun _ => ⟨fun _ => ⟨i1, fun x2 e2 => ⟨i1, fun x3 e3 => by rw [e2]; exact h x3 (Or.inr e3)⟩⟩, fun d => absurd d (by grind)⟩⟩
    · rw [cif_neg t] at h
      have hh := h w (Or.inl ⟨rfl, rfl⟩)
      exact ⟨fun _ => hh, fun d => ⟨fun d2 => absurd (by grind) t, fun _ => hh⟩⟩
  · rw [cif_neg c] at h
    exact h w (Or.inl ⟨rfl, rfl⟩)
theorem s_X6_sign {σ : Nat → Nat → Int32} {n s w : Int32} {Q : Int32 → (Nat → Int32) → Int32 → Prop} (h : ∀ w', ((w' = w ∧ (F_sign σ n s).2 = σ) ∨ w' = 0) → Q (F_sign σ n s).1 ((F_sign σ n s).2 4) w') : wp_X6_sign n s (σ 0) (σ 4) w Q := by
  unfold wp_X6_sign
  unfold F_sign at h
  refine s_X6_isStation (fun c => ⟨fun h => absurd h (by decide), fun _ => ?_⟩) (fun c => ⟨fun _ => ?_, fun h => absurd rfl h⟩)
  · have i1 := c.1.vp (by decide)
    rw [cif_pos c] at h
    refine s_X6_within (fun t => ⟨fun h => absurd h (by decide), fun _ => ⟨i1, fun x3 e3 => ⟨i1, ?_⟩⟩⟩) (fun t => ⟨fun _ => ?_, fun h => absurd rfl h⟩)
    · rw [cif_pos t] at h
      rw [e3]
      exact h 0 (Or.inr rfl)
    · rw [cif_neg t] at h
      exact h w (Or.inl ⟨rfl, rfl⟩)
  · rw [cif_neg c] at h
    exact h w (Or.inl ⟨rfl, rfl⟩)
noncomputable def F_weigh (σ : Nat → Nat → Int32) (n s : Int32) : FS := cif (hasS σ n) (cif (1 ≤ s ∧ s ≤ 4) (σ 5 n.toNatClampNeg, mkS (σ 0) (σ 1) (σ 2) (σ 3) (σ 4) (upd (σ 5) n.toNatClampNeg s)) (-2, σ)) (-1, σ)
theorem s_X5_weigh {σ : Nat → Nat → Int32} {n s w : Int32} {Q : Int32 → Int32 → (Nat → Int32) → Prop} (h : ∀ w', ((w' = w ∧ (F_weigh σ n s).2 = σ) ∨ w' = w + 1) → Q (F_weigh σ n s).1 w' ((F_weigh σ n s).2 5)) : wp_X5_weigh n s w (σ 0) (σ 5) Q := by
  unfold wp_X5_weigh
  unfold F_weigh at h
  refine s_X4_has (fun c => ⟨fun h => absurd h (by decide), fun _ => ?_⟩) (fun c => ⟨fun _ => ?_, fun h => absurd rfl h⟩)
  · have i1 := c.1.vp (by decide)
    rw [cif_pos c] at h
    by_cases t : 1 ≤ s ∧ s ≤ 4
    · rw [cif_pos t] at h
      exact ⟨fun d => absurd d (by grind), fun _ => ⟨fun _ => ⟨i1, fun x2 e2 => ⟨i1, fun x3 e3 => by rw [e2]; exact h x3 (Or.inr e3)⟩⟩, fun d => absurd d (by grind)⟩⟩
    · rw [cif_neg t] at h
      have hh := h w (Or.inl ⟨rfl, rfl⟩)
      exact ⟨fun _ => hh, fun d => ⟨fun d2 => absurd (by grind) t, fun _ => hh⟩⟩
  · rw [cif_neg c] at h
    exact h w (Or.inl ⟨rfl, rfl⟩)
theorem s_X6_weigh {σ : Nat → Nat → Int32} {n s w : Int32} {Q : Int32 → (Nat → Int32) → Int32 → Prop} (h : ∀ w', ((w' = w ∧ (F_weigh σ n s).2 = σ) ∨ w' = 0) → Q (F_weigh σ n s).1 ((F_weigh σ n s).2 5) w') : wp_X6_weigh n s (σ 0) (σ 5) w Q := by
  unfold wp_X6_weigh
  unfold F_weigh at h
  refine s_X6_isStation (fun c => ⟨fun h => absurd h (by decide), fun _ => ?_⟩) (fun c => ⟨fun _ => ?_, fun h => absurd rfl h⟩)
  · have i1 := c.1.vp (by decide)
    rw [cif_pos c] at h
    refine s_X6_within (fun t => ⟨fun h => absurd h (by decide), fun _ => ⟨i1, fun x3 e3 => ⟨i1, ?_⟩⟩⟩) (fun t => ⟨fun _ => ?_, fun h => absurd rfl h⟩)
    · rw [cif_pos t] at h
      rw [e3]
      exact h 0 (Or.inr rfl)
    · rw [cif_neg t] at h
      exact h w (Or.inl ⟨rfl, rfl⟩)
  · rw [cif_neg c] at h
    exact h w (Or.inl ⟨rfl, rfl⟩)
def dropS (σ : Nat → Nat → Int32) (n : Nat) : Nat → Nat → Int32 := mkS (upd (σ 0) n 0) (σ 1) (σ 2) (σ 3) (σ 4) (σ 5)
noncomputable def F_drop (σ : Nat → Nat → Int32) (n : Int32) : FS := cif (hasS σ n) (nI (cntS (dropS σ n.toNatClampNeg)), dropS σ n.toNatClampNeg) (-1, σ)
theorem s_X5_drop {σ : Nat → Nat → Int32} {n w : Int32} {Q : Int32 → Int32 → (Nat → Int32) → Prop} (h : ∀ w', ((w' = w ∧ (F_drop σ n).2 = σ) ∨ w' = w + 1) → Q (F_drop σ n).1 w' ((F_drop σ n).2 0)) : wp_X5_drop n w (σ 0) Q := by
  unfold wp_X5_drop
  unfold F_drop at h
  refine s_X4_has (fun c => ⟨fun h => absurd h (by decide), fun _ => ?_⟩) (fun c => ⟨fun _ => ?_, fun h => absurd rfl h⟩)
  · have i1 := c.1.vp (by decide)
    rw [cif_pos c] at h
    exact ⟨i1, fun x2 e2 => s_X4_count (σ := dropS σ n.toNatClampNeg) (h x2 (Or.inr e2))⟩
  · rw [cif_neg c] at h
    exact h w (Or.inl ⟨rfl, rfl⟩)
theorem s_X6_drop {σ : Nat → Nat → Int32} {n w : Int32} {Q : Int32 → (Nat → Int32) → Int32 → Prop} (h : ∀ w', ((w' = w ∧ (F_drop σ n).2 = σ) ∨ w' = 0) → Q (F_drop σ n).1 ((F_drop σ n).2 0) w') : wp_X6_drop n (σ 0) w Q := by
  unfold wp_X6_drop
  unfold F_drop at h
  refine s_X6_isStation (fun c => ⟨fun h => absurd h (by decide), fun _ => ?_⟩) (fun c => ⟨fun _ => ?_, fun h => absurd rfl h⟩)
  · have i1 := c.1.vp (by decide)
    rw [cif_pos c] at h
    exact ⟨i1, s_X6_stations (σ := dropS σ n.toNatClampNeg) (h 0 (Or.inr rfl))⟩
  · rw [cif_neg c] at h
    exact h w (Or.inl ⟨rfl, rfl⟩)
/-! turning -/
def tr (how : Int32) (x y z : Int32) : Int32 × Int32 × Int32 := if how = 0 then (x, -z, y) else if how = 1 then (z, y, -x) else if how = 2 then (-y, x, z) else (x, y, -z)
abbrev T4 : Type := Int32 × (Nat → Int32) × (Nat → Int32) × (Nat → Int32)
def tr1 (how : Int32) (n : Nat) (p : T4) : T4 := (if tr how (p.2.1 n) (p.2.2.1 n) (p.2.2.2 n) = (p.2.1 n, p.2.2.1 n, p.2.2.2 n) then p.1 else p.1 + 1, upd p.2.1 n (tr how (p.2.1 n) (p.2.2.1 n) (p.2.2.2 n)).1, upd p.2.2.1 n (tr how (p.2.1 n) (p.2.2.1 n) (p.2.2.2 n)).2.1, upd p.2.2.2 n (tr how (p.2.1 n) (p.2.2.1 n) (p.2.2.2 n)).2.2)
def trN (σ : Nat → Nat → Int32) (how : Int32) : Nat → T4
  | 0 => (0, σ 1, σ 2, σ 3)
  | n + 1 => if σ 0 n = 0 then trN σ how n else tr1 how n (trN σ how n)
theorem t3e {a b c a' b' c' : Int32} (h1 : a = a') (h2 : b = b') (h3 : c = c') : (a, b, c) = (a', b', c') := by rw [h1, h2, h3]
theorem s_X6_turns {n : Nat} {how : Int32} {X Y Z : Nat → Int32} {Q : Int32 → (Nat → Int32) → (Nat → Int32) → (Nat → Int32) → Prop} (hn : n < 24) (h : Q (if tr how (X n) (Y n) (Z n) = (X n, Y n, Z n) then 0 else 1) (upd X n (tr how (X n) (Y n) (Z n)).1) (upd Y n (tr how (X n) (Y n) (Z n)).2.1) (upd Z n (tr how (X n) (Y n) (Z n)).2.2)) : wp_X6_turns (nI n) how X Y Z Q := by
  have i1 : vp_in (nI n) 24 := vp_in_nI hn (by decide)
  unfold wp_X6_turns
  rw [nI_clamp (n := n) (by omega)]
  refine ⟨i1, fun x1 e1 => ⟨i1, fun x2 e2 => ⟨i1, fun x3 e3 => ⟨fun d x5 e5 => ?_, fun d => ⟨i1, fun x9 e9 => ?_⟩, fun d x13 e13 => ?_, fun d0 d1 d2 x17 e17 => ?_⟩⟩⟩⟩
  · have et : tr how (X n) (Y n) (Z n) = (X n, -(Z n), Y n) := by unfold tr; rw [if_pos d]
    rw [et] at h
    rw [e5, e3, e2, e1, pk_us, pk_us]
    rw [upd_self] at h
    refine ⟨i1, i1, i1, fun _ => ⟨i1, fun c2 => ⟨i1, fun c3 => ?_, fun c3 => ?_⟩, fun c2 => ?_⟩, fun c => absurd rfl c⟩
    · rw [if_pos (t3e rfl c2 c3)] at h; exact h
    · rw [if_neg (fun q => c3 (congrArg (fun t => t.2.2) q))] at h; exact h
    · rw [if_neg (fun q => c2 (congrArg (fun t => t.2.1) q))] at h; exact h
  · have et : tr how (X n) (Y n) (Z n) = (Z n, Y n, -(X n)) := by unfold tr; rw [if_neg (by rw [d]; decide), if_pos d]
    rw [et] at h
    rw [e9, e3, e2, e1, pk_us, pk_us]
    rw [upd_self] at h
    refine ⟨i1, i1, fun c1 => ⟨i1, fun _ => ⟨i1, fun c3 => ?_, fun c3 => ?_⟩, fun c => absurd rfl c⟩, fun c1 => ?_⟩
    · rw [if_pos (t3e c1 rfl c3)] at h; exact h
    · rw [if_neg (fun q => c3 (congrArg (fun t => t.2.2) q))] at h; exact h
    · rw [if_neg (fun q => c1 (congrArg (fun t => t.1) q))] at h; exact h
  · have et : tr how (X n) (Y n) (Z n) = (-(Y n), X n, Z n) := by unfold tr; rw [if_neg (by rw [d]; decide), if_neg (by rw [d]; decide), if_pos d]
    rw [et] at h
    rw [e13, e3, e2, e1, pk_us, pk_us]
    rw [upd_self] at h
    refine ⟨i1, i1, i1, fun c1 => ⟨i1, fun c2 => ⟨i1, fun _ => ?_, fun c => absurd rfl c⟩, fun c2 => ?_⟩, fun c1 => ?_⟩
    · rw [if_pos (t3e c1 c2 rfl)] at h; exact h
    · rw [if_neg (fun q => c2 (congrArg (fun t => t.2.1) q))] at h; exact h
    · rw [if_neg (fun q => c1 (congrArg (fun t => t.1) q))] at h; exact h
  · have et : tr how (X n) (Y n) (Z n) = (X n, Y n, -(Z n)) := by unfold tr; rw [if_neg d0, if_neg d1, if_neg d2]
    rw [et] at h
    rw [e17, e3, e2, e1, pk_us]
    rw [upd_self, upd_self] at h
    refine ⟨i1, i1, fun _ => ⟨i1, fun _ => ⟨i1, fun c3 => ?_, fun c3 => ?_⟩, fun c => absurd rfl c⟩, fun c => absurd rfl c⟩
    · rw [if_pos (t3e rfl rfl c3)] at h; exact h
    · rw [if_neg (fun q => c3 (congrArg (fun t => t.2.2) q))] at h; exact h
theorem s_X4_turnOne {n : Nat} {how : Int32} {X Y Z : Nat → Int32} {Q : Int32 → (Nat → Int32) → (Nat → Int32) → (Nat → Int32) → Prop} (hn : n < 24) (h : Q (if tr how (X n) (Y n) (Z n) = (X n, Y n, Z n) then 0 else 1) (upd X n (tr how (X n) (Y n) (Z n)).1) (upd Y n (tr how (X n) (Y n) (Z n)).2.1) (upd Z n (tr how (X n) (Y n) (Z n)).2.2)) : wp_X4_turnOne (nI n) how X Y Z Q := by
  have i1 : vp_in (nI n) 24 := vp_in_nI hn (by decide)
  have fin : ∀ a b c : Int32, tr how (X n) (Y n) (Z n) = (a, b, c) → wp_X4_aim (nI n) a b c X Y Z (fun (w5 : Nat → Int32) (w6 : Nat → Int32) (w7 : Nat → Int32) => vp_in (nI n) 24 ∧ (((w5 n) = X n → vp_in (nI n) 24 ∧ (((w6 n) = Y n → vp_in (nI n) 24 ∧ (((w7 n) = Z n → Q 0 w5 w6 w7) ∧ (¬ (w7 n) = Z n → Q 1 w5 w6 w7))) ∧ (¬ (w6 n) = Y n → Q 1 w5 w6 w7))) ∧ (¬ (w5 n) = X n → Q 1 w5 w6 w7))) := by
    intro a b c et
    rw [et] at h
    unfold wp_X4_aim
    rw [nI_clamp (n := n) (by omega)]
    dsimp only
    rw [pk_us, pk_us, pk_us]
    refine ⟨i1, i1, i1, i1, fun c1 => ⟨i1, fun c2 => ⟨i1, fun c3 => ?_, fun c3 => ?_⟩, fun c2 => ?_⟩, fun c1 => ?_⟩
    · rw [if_pos (t3e c1 c2 c3)] at h; exact h
    · rw [if_neg (fun q => c3 (congrArg (fun t => t.2.2) q))] at h; exact h
    · rw [if_neg (fun q => c2 (congrArg (fun t => t.2.1) q))] at h; exact h
    · rw [if_neg (fun q => c1 (congrArg (fun t => t.1) q))] at h; exact h
  unfold wp_X4_turnOne
  rw [nI_clamp (n := n) (by omega)]
  refine ⟨i1, fun x1 e1 => ⟨i1, fun x2 e2 => ⟨i1, fun x3 e3 => ?_⟩⟩⟩
  rw [e3, e2, e1]
  refine ⟨fun d => fin _ _ _ ?_, fun d => fin _ _ _ ?_, fun d => fin _ _ _ ?_, fun d0 d1 d2 => fin _ _ _ ?_⟩
  · unfold tr; rw [if_pos d]
  · unfold tr; rw [if_neg (by rw [d]; decide), if_pos d]
  · unfold tr; rw [if_neg (by rw [d]; decide), if_neg (by rw [d]; decide), if_pos d]
  · unfold tr; rw [if_neg d0, if_neg d1, if_neg d2]
theorem tu_L16 {σ : Nat → Nat → Int32} {how : Int32} {K : Int32 → Int32 → (Nat → Int32) → (Nat → Int32) → (Nat → Int32) → Prop} (hK : ∀ w, K (trN σ how 24).1 w (trN σ how 24).2.1 (trN σ how 24).2.2.1 (trN σ how 24).2.2.2) : ∀ (r n : Nat), n + r = 24 → wp_X6_turn_L16 how (σ 0) K (r + 1) (trN σ how n).1 (nI n) (trN σ how n).2.1 (trN σ how n).2.2.1 (trN σ how n).2.2.2 := by
  intro r
  induction r with
  | zero =>
    intro n hn
    unfold wp_X6_turn_L16
    have e : n = 24 := by omega
    subst e
    exact ⟨fun _ => hK _, fun h => absurd ((le24 (by decide)).mpr (Nat.le_refl _)) h⟩
  | succ r ih =>
    intro n hn
    have i1 : vp_in (nI n) 24 := vp_in_nI (by omega) (by decide)
    have nx := ih (n + 1) (by omega)
    rw [trN] at nx
    unfold wp_X6_turn_L16
    rw [nI_clamp (n := n) (by omega), nI_1]
    refine ⟨fun h => absurd ((le24 (by omega)).mp h) (by omega), fun _ => ⟨i1, fun c => ?_, fun c => s_X6_turns (by omega) ⟨fun d x5 e5 => ?_, fun d x6 e6 => ?_⟩⟩⟩
    · rw [if_pos c] at nx; exact nx
    · rw [if_neg c] at nx
      have dd : tr how ((trN σ how n).2.1 n) ((trN σ how n).2.2.1 n) ((trN σ how n).2.2.2 n) = ((trN σ how n).2.1 n, (trN σ how n).2.2.1 n, (trN σ how n).2.2.2 n) := by
        by_cases q : tr how ((trN σ how n).2.1 n) ((trN σ how n).2.2.1 n) ((trN σ how n).2.2.2 n) = ((trN σ how n).2.1 n, (trN σ how n).2.2.1 n, (trN σ how n).2.2.2 n)
        · exact q
        · rw [if_neg q] at d; exact absurd d (by decide)
      unfold tr1 at nx
      rw [if_pos dd] at nx
      rw [e5, Int32.add_zero]
      exact nx
    · rw [if_neg c] at nx
      have dd : ¬ tr how ((trN σ how n).2.1 n) ((trN σ how n).2.2.1 n) ((trN σ how n).2.2.2 n) = ((trN σ how n).2.1 n, (trN σ how n).2.2.1 n, (trN σ how n).2.2.2 n) := fun q => d (if_pos q)
      unfold tr1 at nx
      rw [if_neg dd] at nx
      rw [e6]
      exact nx
theorem ta_L4 {σ : Nat → Nat → Int32} {how : Int32} {K : Int32 → Int32 → (Nat → Int32) → (Nat → Int32) → (Nat → Int32) → Prop} (hK : ∀ w, K (trN σ how 24).1 w (trN σ how 24).2.1 (trN σ how 24).2.2.1 (trN σ how 24).2.2.2) : ∀ (r n : Nat), n + r = 24 → wp_X4_turnAll_L4 how (σ 0) K (r + 1) (trN σ how n).1 (nI n) (trN σ how n).2.1 (trN σ how n).2.2.1 (trN σ how n).2.2.2 := by
  intro r
  induction r with
  | zero =>
    intro n hn
    unfold wp_X4_turnAll_L4
    have e : n = 24 := by omega
    subst e
    exact ⟨fun _ => hK _, fun h => absurd ((le24 (by decide)).mpr (Nat.le_refl _)) h⟩
  | succ r ih =>
    intro n hn
    have i1 : vp_in (nI n) 24 := vp_in_nI (by omega) (by decide)
    have nx := ih (n + 1) (by omega)
    rw [trN] at nx
    unfold wp_X4_turnAll_L4
    rw [nI_clamp (n := n) (by omega), nI_1]
    refine ⟨fun h => absurd ((le24 (by omega)).mp h) (by omega), fun _ => ⟨i1, fun c => ?_, fun c => s_X4_turnOne (by omega) ⟨fun d => ?_, fun d => ?_⟩⟩⟩
    · rw [if_pos c] at nx; exact nx
    · rw [if_neg c] at nx
      have dd : tr how ((trN σ how n).2.1 n) ((trN σ how n).2.2.1 n) ((trN σ how n).2.2.2 n) = ((trN σ how n).2.1 n, (trN σ how n).2.2.1 n, (trN σ how n).2.2.2 n) := by
        by_cases q : tr how ((trN σ how n).2.1 n) ((trN σ how n).2.2.1 n) ((trN σ how n).2.2.2 n) = ((trN σ how n).2.1 n, (trN σ how n).2.2.1 n, (trN σ how n).2.2.2 n)
        · exact q
        · rw [if_neg q] at d; exact absurd d (by decide)
      unfold tr1 at nx
      rw [if_pos dd] at nx
      exact nx
    · rw [if_neg c] at nx
      have dd : ¬ tr how ((trN σ how n).2.1 n) ((trN σ how n).2.2.1 n) ((trN σ how n).2.2.2 n) = ((trN σ how n).2.1 n, (trN σ how n).2.2.1 n, (trN σ how n).2.2.2 n) := fun q => d (if_pos q)
      unfold tr1 at nx
      rw [if_neg dd] at nx
      exact nx
noncomputable def F_turn (σ : Nat → Nat → Int32) (how : Int32) : FS := cif (0 ≤ how ∧ how ≤ 3) ((trN σ how 24).1, mkS (σ 0) (trN σ how 24).2.1 (trN σ how 24).2.2.1 (trN σ how 24).2.2.2 (σ 4) (σ 5)) (-2, σ)
theorem s_X5_turn {σ : Nat → Nat → Int32} {how w : Int32} {Q : Int32 → Int32 → (Nat → Int32) → (Nat → Int32) → (Nat → Int32) → Prop} (h : ∀ w', ((w' = w ∧ (F_turn σ how).2 = σ) ∨ w' = w + 1) → Q (F_turn σ how).1 w' ((F_turn σ how).2 1) ((F_turn σ how).2 2) ((F_turn σ how).2 3)) : wp_X5_turn how w (σ 0) (σ 1) (σ 2) (σ 3) Q := by
  unfold wp_X5_turn
  unfold F_turn at h
  by_cases c : 0 ≤ how ∧ how ≤ 3
  · rw [cif_pos c] at h
    exact ⟨fun d => absurd d (by grind), fun _ => ⟨fun _ x1 e1 => ⟨25, ta_L4 (fun _ => h x1 (Or.inr e1)) 24 0 (by omega)⟩, fun d => absurd d (by grind)⟩⟩
  · rw [cif_neg c] at h
    have hh := h w (Or.inl ⟨rfl, rfl⟩)
    exact ⟨fun _ => hh, fun d => ⟨fun d2 => absurd (by grind) c, fun _ => hh⟩⟩
theorem s_X6_turn {σ : Nat → Nat → Int32} {how w : Int32} {Q : Int32 → (Nat → Int32) → (Nat → Int32) → (Nat → Int32) → Int32 → Prop} (h : ∀ w', ((w' = w ∧ (F_turn σ how).2 = σ) ∨ w' = 0) → Q (F_turn σ how).1 ((F_turn σ how).2 1) ((F_turn σ how).2 2) ((F_turn σ how).2 3) w') : wp_X6_turn how (σ 0) (σ 1) (σ 2) (σ 3) w Q := by
  unfold wp_X6_turn
  unfold F_turn at h
  refine s_X6_within (fun c => ⟨fun h => absurd h (by decide), fun _ => ⟨25, ?_⟩⟩) (fun c => ⟨fun _ => ?_, fun h => absurd rfl h⟩)
  · rw [cif_pos c] at h
    exact tu_L16 (fun _ => h 0 (Or.inr rfl)) 24 0 (by omega)
  · rw [cif_neg c] at h
    exact h w (Or.inl ⟨rfl, rfl⟩)
