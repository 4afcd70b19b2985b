/-! LEVEL 2: signs, what solutions miss, the least of it, who is kept -/
def ps (k : Nat) (x y z : Int32) : Int32 := sgn (pX k * x + pY k * y + pZ k * z)
def sense (s : Nat) : Int32 := if s % 2 = 0 then 1 else -1
def sg8 (v s : Nat) (x y z : Int32) : Int32 := sense s * ps (pA v (s / 2)) x y z * ps (pB v (s / 2)) x y z
theorem sgn_3 (v : Int32) : sgn v = 1 ∨ sgn v = 0 ∨ sgn v = -1 := by unfold sgn; split <;> (try split) <;> simp
theorem sense_2 (s : Nat) : sense s = 1 ∨ sense s = -1 := by unfold sense; split <;> simp
theorem par_nI {s : Nat} (h : s < 2 ^ 31) : nI s - nI s / 2 * 2 = nI (s % 2) := pk_rem (d := 2) h (by decide) (by decide)
theorem two_nI (n : Nat) : (2 : Int32) * nI n = nI (2 * n) := pk_mul 2 n
theorem par_0 {s : Nat} (h : s < 2 ^ 31) : nI s - nI s / 2 * 2 = 0 ↔ s % 2 = 0 := by
  rw [par_nI h]; exact nI_eq0 (by omega)
def geo (v : Nat) (X Y Z A B : Nat → Int32) : Prop := tabP (nPol v) X Y Z ∧ ∀ k, k < nPr v → A k = nI (pA v k) ∧ B k = nI (pB v k)
theorem s_X6_poleSign {N k : Nat} {x y z : Int32} {X Y Z : Nat → Int32} {Q : Int32 → Prop} (hN : N ≤ 145) (hT : tabP N X Y Z) (hk : k < N) (h : Q (ps k x y z)) : wp_X6_poleSign (nI k) x y z X Y Z Q := by
  unfold wp_X6_poleSign
  have i1 : vp_in (nI k) 145 := vp_in_nI (by omega) (by decide)
  obtain ⟨h1, h2, h3⟩ := hT k hk
  rw [nI_clamp (by omega), h1, h2, h3]
  exact ⟨i1, i1, i1, s_X6_signOf h⟩
theorem s_X6_signHere {v s : Nat} {x y z : Int32} {X Y Z A B : Nat → Int32} {Q : Int32 → Prop} (h1 : 1 ≤ v) (h3 : v ≤ 3) (hg : geo v X Y Z A B) (hs : s < 2 * nPr v) (h : Q (sg8 v s x y z)) : wp_X6_signHere (nI s) x y z X Y Z A B Q := by
  have hb := (nPr_b h1 h3).2
  have hk : s / 2 < nPr v := by omega
  have hn := nPol_le v
  obtain ⟨ha1, ha2, ha3⟩ := pAB_in hk
  unfold wp_X6_signHere
  rw [par_0 (by omega), sol_half (by omega), nI_clamp (n := s / 2) (by omega), (hg.2 _ hk).1, (hg.2 _ hk).2]
  have i0 : vp_in (nI (s / 2)) 1160 := vp_in_nI (by omega) (by decide)
  unfold sg8 sense at h
  refine ⟨fun c => ⟨i0, s_X6_poleSign hn hg.1 (by omega) ⟨i0, s_X6_poleSign hn hg.1 (by omega) ?_⟩⟩, fun c => ⟨i0, s_X6_poleSign hn hg.1 (by omega) ⟨i0, s_X6_poleSign hn hg.1 (by omega) ?_⟩⟩⟩
  · rw [if_pos c] at h; exact h
  · rw [if_neg c] at h; exact h
/-! stations: σ 0 there, σ 1, 2, 3 the direction, σ 4 the sign, σ 5 the weight -/
def sgnd (σ : Nat → Nat → Int32) (n : Nat) : Prop := ¬ σ 0 n = 0 ∧ ¬ σ 4 n = 0
def at8 (v : Nat) (σ : Nat → Nat → Int32) (s n : Nat) : Int32 := sg8 v s (σ 1 n) (σ 2 n) (σ 3 n)
def wN (σ : Nat → Nat → Int32) (n : Nat) : Nat := (σ 5 n).toNatClampNeg
def wfS (σ : Nat → Nat → Int32) : Prop := ∀ n, n < 24 → (σ 0 n = 0 ∨ σ 0 n = 1) ∧ (σ 4 n = -1 ∨ σ 4 n = 0 ∨ σ 4 n = 1) ∧ ∃ w : Nat, w ≤ 4 ∧ σ 5 n = nI w
theorem wfS.w {σ : Nat → Nat → Int32} (h : wfS σ) {n : Nat} (hn : n < 24) : σ 5 n = nI (wN σ n) ∧ wN σ n ≤ 4 := by
  obtain ⟨_, _, w, hw, e⟩ := h n hn
  unfold wN
  rw [e, nI_clamp (by omega)]
  exact ⟨rfl, hw⟩
def agn (v : Nat) (σ : Nat → Nat → Int32) (s n : Nat) : Bool := !(σ 0 n == 0) && (!(σ 4 n == 0) && (at8 v σ s n == -(σ 4 n)))
def ndl (v : Nat) (σ : Nat → Nat → Int32) (s n : Nat) : Bool := !(σ 0 n == 0) && (!(σ 4 n == 0) && (at8 v σ s n == 0))
def misN (v : Nat) (σ : Nat → Nat → Int32) (s : Nat) : Nat → Nat
  | 0 => 0
  | n + 1 => misN v σ s n + (if agn v σ s n then wN σ n else 0)
def nodN (v : Nat) (σ : Nat → Nat → Int32) (s : Nat) : Nat → Nat
  | 0 => 0
  | n + 1 => nodN v σ s n + (if ndl v σ s n then wN σ n else 0)
def mis (v : Nat) (σ : Nat → Nat → Int32) (s : Nat) : Nat := misN v σ s 24
def nod (v : Nat) (σ : Nat → Nat → Int32) (s : Nat) : Nat := nodN v σ s 24
theorem misN_le {v : Nat} {σ : Nat → Nat → Int32} (hw : wfS σ) (s : Nat) : ∀ n, n ≤ 24 → misN v σ s n ≤ 4 * n
  | 0, _ => Nat.le_refl _
  | n + 1, h => by
    have h1 := misN_le (v := v) hw s n (by omega)
    have h2 := (hw.w (n := n) (by omega)).2
    rw [misN]
    split <;> omega
theorem nodN_le {v : Nat} {σ : Nat → Nat → Int32} (hw : wfS σ) (s : Nat) : ∀ n, n ≤ 24 → nodN v σ s n ≤ 4 * n
  | 0, _ => Nat.le_refl _
  | n + 1, h => by
    have h1 := nodN_le (v := v) hw s n (by omega)
    have h2 := (hw.w (n := n) (by omega)).2
    rw [nodN]
    split <;> omega
theorem mis_le {v : Nat} {σ : Nat → Nat → Int32} (hw : wfS σ) (s : Nat) : mis v σ s ≤ 96 := misN_le hw s 24 (by omega)
theorem nod_le {v : Nat} {σ : Nat → Nat → Int32} (hw : wfS σ) (s : Nat) : nod v σ s ≤ 96 := nodN_le hw s 24 (by omega)
def minN (f : Nat → Nat) : Nat → Nat
  | 0 => 96
  | n + 1 => min (minN f n) (f n)
theorem minN_le96 (f : Nat → Nat) : ∀ n, minN f n ≤ 96
  | 0 => Nat.le_refl _
  | n + 1 => by have := minN_le96 f n; rw [minN]; omega
theorem minN_le (f : Nat → Nat) : ∀ {n k : Nat}, k < n → minN f n ≤ f k
  | n + 1, k, h => by
    rw [minN]
    by_cases c : k = n
    · subst c; omega
    · have := minN_le f (n := n) (k := k) (by omega); omega
theorem minN_at (f : Nat → Nat) (hf : ∀ k, f k ≤ 96) : ∀ n, 0 < n → ∃ k, k < n ∧ minN f n = f k
  | n + 1, _ => by
    rcases Nat.eq_zero_or_pos n with h | h
    · subst h
      exact ⟨0, by omega, by rw [minN, minN]; have := hf 0; omega⟩
    · obtain ⟨k, h1, h2⟩ := minN_at f hf n h
      rw [minN]
      by_cases c : minN f n ≤ f n
      · exact ⟨k, by omega, by omega⟩
      · exact ⟨n, by omega, by omega⟩
def lst (v : Nat) (σ : Nat → Nat → Int32) : Nat := minN (mis v σ) (2 * nPr v)
def kep (v : Nat) (σ : Nat → Nat → Int32) (e s : Nat) : Bool := decide (mis v σ s ≤ lst v σ + e)
def ct (p : Nat → Bool) : Nat → Nat
  | 0 => 0
  | n + 1 => ct p n + (if p n then 1 else 0)
theorem ct_le (p : Nat → Bool) : ∀ n, ct p n ≤ n
  | 0 => Nat.le_refl _
  | n + 1 => by have := ct_le p n; rw [ct]; split <;> omega
def nKp (v : Nat) (σ : Nat → Nat → Int32) (e : Nat) : Nat := ct (kep v σ e) (2 * nPr v)
theorem I24 {n : Nat} : ((24 : Int32) ≤ nI n ↔ 24 ≤ n) ∨ ¬ n < 2 ^ 31 := by
  by_cases h : n < 2 ^ 31
  · exact Or.inl (nI_leI (a := 24) (by decide) h)
  · exact Or.inr h
theorem le24 {n : Nat} (h : n < 2 ^ 31) : (24 : Int32) ≤ nI n ↔ 24 ≤ n := nI_leI (a := 24) (by decide) h
theorem me_L33 {v s : Nat} {σ : Nat → Nat → Int32} {X Y Z A B M0 N0 : Nat → Int32} {K : Int32 → (Nat → Int32) → (Nat → Int32) → Prop} (h1 : 1 ≤ v) (h3 : v ≤ 3) (hw : wfS σ) (hg : geo v X Y Z A B) (hs : s < 2 * nPr v)
    (hK : ∀ w M N, M s = nI (mis v σ s) → N s = nI (nod v σ s) → (∀ j, j ≠ s → M j = M0 j) → (∀ j, j ≠ s → N j = N0 j) → K w M N) :
    ∀ (r n : Nat) (M N : Nat → Int32), n + r = 24 → M s = nI (misN v σ s n) → N s = nI (nodN v σ s n) → (∀ j, j ≠ s → M j = M0 j) → (∀ j, j ≠ s → N j = N0 j) → wp_X6_measures_L33 (σ 0) (σ 1) (σ 2) (σ 3) (σ 4) (σ 5) X Y Z A B (nI s) K (r + 1) (nI n) M N := by
  have hb := (nPr_b h1 h3).2
  intro r
  induction r with
  | zero =>
    intro n M N hn hM hN oM oN
    unfold wp_X6_measures_L33
    have e : n = 24 := by omega
    subst e
    exact ⟨fun _ => hK _ _ _ hM hN oM oN, fun h => absurd ((le24 (by decide)).mpr (Nat.le_refl _)) h⟩
  | succ r ih =>
    intro n M N hn hM hN oM oN
    have hlt : n < 24 := by omega
    have cs : (nI s).toNatClampNeg = s := nI_clamp (by omega)
    have nxt : ∀ M' N' : Nat → Int32, M' s = nI (misN v σ s (n + 1)) → N' s = nI (nodN v σ s (n + 1)) → (∀ j, j ≠ s → M' j = M0 j) → (∀ j, j ≠ s → N' j = N0 j) → wp_X6_measures_L33 (σ 0) (σ 1) (σ 2) (σ 3) (σ 4) (σ 5) X Y Z A B (nI s) K (r + 1) (nI n + 1) M' N' := by
      intro M' N' a b c d
      rw [nI_1]
      exact ih (n + 1) M' N' (by omega) a b c d
    have i1 : vp_in (nI n) 24 := vp_in_nI hlt (by decide)
    have i2 : vp_in (nI s) 2320 := vp_in_nI (by omega) (by decide)
    obtain ⟨ew, _⟩ := hw.w hlt
    unfold wp_X6_measures_L33
    rw [nI_clamp (n := n) (by omega), cs, ew, hM, hN]
    refine ⟨fun h => absurd ((le24 (by omega)).mp h) (by omega), fun _ => ⟨i1, fun c0 => ?_, fun c0 => ⟨i1, fun c1 => ?_, fun c1 => ⟨i1, i1, i1, s_X6_signHere h1 h3 hg hs ⟨i2, i1, fun c2 => ⟨i1, fun x6 e6 => ⟨i2, i2, fun c3 => ⟨i1, fun x8 e8 => ⟨i2, ?_⟩⟩, fun c3 x7 e7 => ⟨i2, ?_⟩⟩⟩, fun c2 x2 e2 => ⟨i2, i2, fun c3 => ⟨i1, fun x4 e4 => ⟨i2, ?_⟩⟩, fun c3 x3 e3 => ⟨i2, ?_⟩⟩⟩⟩⟩⟩⟩
    · refine nxt M N ?_ ?_ oM oN
      · rw [hM, misN, if_neg (by simp [agn, c0])]; rfl
      · rw [hN, nodN, if_neg (by simp [ndl, c0])]; rfl
    · refine nxt M N ?_ ?_ oM oN
      · rw [hM, misN, if_neg (by simp [agn, c1])]; rfl
      · rw [hN, nodN, if_neg (by simp [ndl, c1])]; rfl
    · refine nxt _ _ ?_ ?_ (fun j hj => by rw [pk_un hj]; exact oM j hj) (fun j hj => by rw [pk_un hj]; exact oN j hj)
      · rw [pk_us, e6, nI_add, misN, if_pos (by simp [agn, c0, c1, at8, c2])]
      · rw [pk_us, e8, nI_add, nodN, if_pos (by simp [ndl, c0, c1, at8, c3])]
    · refine nxt _ _ ?_ ?_ (fun j hj => by rw [pk_un hj]; exact oM j hj) (fun j hj => by rw [pk_un hj]; exact oN j hj)
      · rw [pk_us, e6, nI_add, misN, if_pos (by simp [agn, c0, c1, at8, c2])]
      · rw [pk_us, e7, Int32.add_zero, nodN, if_neg (by simp [ndl, at8, c3])]; rfl
    · refine nxt _ _ ?_ ?_ (fun j hj => by rw [pk_un hj]; exact oM j hj) (fun j hj => by rw [pk_un hj]; exact oN j hj)
      · rw [pk_us, e2, Int32.add_zero, misN, if_neg (by simp [agn, at8, c2])]; rfl
      · rw [pk_us, e4, nI_add, nodN, if_pos (by simp [ndl, c0, c1, at8, c3])]
    · refine nxt _ _ ?_ ?_ (fun j hj => by rw [pk_un hj]; exact oM j hj) (fun j hj => by rw [pk_un hj]; exact oN j hj)
      · rw [pk_us, e2, Int32.add_zero, misN, if_neg (by simp [agn, at8, c2])]; rfl
      · rw [pk_us, e3, Int32.add_zero, nodN, if_neg (by simp [ndl, at8, c3])]; rfl
/-- what the misfit rows hold -/
def tabM (v : Nat) (σ : Nat → Nat → Int32) (n : Nat) (M N : Nat → Int32) : Prop := ∀ s, s < n → M s = nI (mis v σ s) ∧ N s = nI (nod v σ s)
theorem me_L7 {v : Nat} {σ : Nat → Nat → Int32} {X Y Z A B : Nat → Int32} {K : Int32 → Int32 → (Nat → Int32) → (Nat → Int32) → Prop} (h1 : 1 ≤ v) (h3 : v ≤ 3) (hw : wfS σ) (hg : geo v X Y Z A B)
    (hK : ∀ w M N, tabM v σ (2 * nPr v) M N → K w (nI (lst v σ)) M N) :
    ∀ (r s : Nat) (l : Int32) (M N : Nat → Int32), s + r = 2 * nPr v → (0 < s → l = nI (minN (mis v σ) s)) → tabM v σ s M N → wp_X6_measures_L7 (σ 0) (σ 1) (σ 2) (σ 3) (σ 4) (σ 5) X Y Z (nI (nPr v)) A B K (r + 1) (nI s) l M N := by
  have hb := nPr_b h1 h3
  intro r
  induction r with
  | zero =>
    intro s l M N hs hl hT
    unfold wp_X6_measures_L7
    have e : s = 2 * nPr v := by omega
    subst e
    rw [two_nI]
    refine ⟨fun _ => ?_, fun h => absurd (nI_le (Nat.le_refl _) (by omega)) h⟩
    rw [hl (by omega)]
    exact hK _ _ _ hT
  | succ r ih =>
    intro s l M N hs hl hT
    have cs : (nI s).toNatClampNeg = s := nI_clamp (by omega)
    have i2 : vp_in (nI s) 2320 := vp_in_nI (by omega) (by decide)
    unfold wp_X6_measures_L7
    rw [two_nI, cs]
    refine ⟨fun h => absurd h (nI_ge (by omega) (by omega)), fun _ => ⟨i2, i2, 25, me_L33 (M0 := M) (N0 := N) h1 h3 hw hg (by omega) ?_ 24 0 _ _ (by omega) pk_us pk_us (fun j hj => pk_un hj) (fun j hj => pk_un hj)⟩⟩
    intro w M' N' hM hN oM oN
    have hT' : tabM v σ (s + 1) M' N' := fun j hj => by
      by_cases c : j = s
      · subst c; exact ⟨hM, hN⟩
      · rw [oM j c, oN j c]; exact hT j (by omega)
    have hle := mis_le (v := v) hw s
    have h96 := minN_le96 (mis v σ) s
    rw [hM, nI_1]
    refine ⟨fun c => ⟨i2, fun x1 e1 => ?_⟩, fun c => ⟨i2, fun c2 => ?_, fun c2 => ⟨i2, fun x2 e2 => ?_⟩⟩⟩
    · have s0 : s = 0 := (nI_eq0 (by omega)).mp c
      subst s0
      rw [e1]
      exact ih 1 _ _ _ (by omega) (fun _ => by rw [minN, minN, Nat.min_eq_right hle]) hT'
    · have s0 : 0 < s := Nat.pos_of_ne_zero (fun h => c ((nI_eq0 (by omega)).mpr h))
      rw [hl s0] at c2 ⊢
      have c3 := (nI_leI (by omega) (by omega)).mp c2
      exact ih (s + 1) _ _ _ (by omega) (fun _ => by rw [minN, Nat.min_eq_left c3]) hT'
    · have s0 : 0 < s := Nat.pos_of_ne_zero (fun h => c ((nI_eq0 (by omega)).mpr h))
      rw [hl s0] at c2
      have c3 : ¬ minN (mis v σ) s ≤ mis v σ s := fun h => c2 ((nI_leI (by omega) (by omega)).mpr h)
      rw [e2]
      exact ih (s + 1) _ _ _ (by omega) (fun _ => by rw [minN, Nat.min_eq_right (by omega)]) hT'
theorem me_L187 {v e : Nat} {σ : Nat → Nat → Int32} {M N : Nat → Int32} {K : Int32 → Int32 → Prop} (h1 : 1 ≤ v) (h3 : v ≤ 3) (he : e ≤ 9) (hw : wfS σ) (hT : tabM v σ (2 * nPr v) M N) (hK : ∀ w, K w (nI (nKp v σ e))) :
    ∀ (r s : Nat), s + r = 2 * nPr v → wp_X6_measures_L187 (nI e) (nI (nPr v)) (nI (lst v σ)) M K (r + 1) (nI s) (nI (ct (kep v σ e) s)) := by
  have hb := nPr_b h1 h3
  have hl := minN_le96 (mis v σ) (2 * nPr v)
  intro r
  induction r with
  | zero =>
    intro s hs
    unfold wp_X6_measures_L187
    have e : s = 2 * nPr v := by omega
    subst e
    rw [two_nI]
    exact ⟨fun _ => hK _, fun h => absurd (nI_le (Nat.le_refl _) (by omega)) h⟩
  | succ r ih =>
    intro s hs
    have i2 : vp_in (nI s) 2320 := vp_in_nI (by omega) (by decide)
    have hle := mis_le (v := v) hw s
    unfold wp_X6_measures_L187
    rw [two_nI, nI_clamp (n := s) (by omega), (hT s (by omega)).1, nI_add, nI_1]
    have el : nI (lst v σ + e) < nI (mis v σ s) ↔ lst v σ + e < mis v σ s := nI_ltI (by unfold lst; omega) (by omega)
    rw [el]
    have hct := ct_le (kep v σ e) s
    refine ⟨fun h => absurd h (nI_ge (by omega) (by omega)), fun _ => ⟨i2, fun c x1 e1 => ?_, fun c x2 e2 => ?_⟩⟩
    · rw [e1, Int32.add_zero]
      have := ih (s + 1) (by omega)
      rw [ct, if_neg (by simp [kep]; omega)] at this
      exact this
    · rw [e2, nI_1]
      have := ih (s + 1) (by omega)
      rw [ct, if_pos (by simp [kep]; omega)] at this
      exact this
theorem s_X6_measures {v e : Nat} {σ : Nat → Nat → Int32} {X Y Z A B M N : Nat → Int32} {l0 k0 : Int32} {Q : Int32 → Int32 → (Nat → Int32) → (Nat → Int32) → Prop} (h1 : 1 ≤ v) (h3 : v ≤ 3) (he : e ≤ 9) (hw : wfS σ) (hg : geo v X Y Z A B)
    (h : ∀ M' N', tabM v σ (2 * nPr v) M' N' → Q (nI (lst v σ)) (nI (nKp v σ e)) M' N') : wp_X6_measures (σ 0) (σ 1) (σ 2) (σ 3) (σ 4) (σ 5) (nI e) X Y Z (nI (nPr v)) A B l0 k0 M N Q := by
  unfold wp_X6_measures
  refine ⟨2 * nPr v + 1, me_L7 h1 h3 hw hg ?_ (2 * nPr v) 0 0 M N (by omega) (fun h => absurd h (by omega)) (fun s hs => absurd hs (by omega))⟩
  intro w M' N' hT
  exact ⟨2 * nPr v + 1, me_L187 h1 h3 he hw hT (fun w => h M' N' hT) (2 * nPr v) 0 (by omega)⟩
