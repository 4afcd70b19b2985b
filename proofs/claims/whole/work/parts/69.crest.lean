/-! LEVEL 2: the class's ranking, asked -/
theorem misN_far {v : Nat} {σ τ : Nat → Nat → Int32} {s k : Nat} (h0 : ∀ j, j ≠ k → agn v σ s j = agn v τ s j) (hwt : ∀ j, wN σ j = wN τ j) : ∀ n, n ≤ k → misN v σ s n = misN v τ s n
  | 0, _ => rfl
  | n + 1, h => by rw [misN, misN, misN_far h0 hwt n (by omega), h0 n (by omega), hwt n]
theorem misN_turn {v : Nat} {σ τ : Nat → Nat → Int32} {s k : Nat} (h0 : ∀ j, j ≠ k → agn v σ s j = agn v τ s j) (hwt : ∀ j, wN σ j = wN τ j) : ∀ n, k < n → misN v τ s n + (if agn v σ s k then wN σ k else 0) = misN v σ s n + (if agn v τ s k then wN σ k else 0)
  | n + 1, h => by
    rw [misN, misN]
    by_cases c : k = n
    · subst c
      rw [misN_far h0 hwt k (Nat.le_refl _), hwt k]
      omega
    · have ih := misN_turn h0 hwt n (by omega)
      rw [h0 n (by omega), hwt n]
      omega
theorem agn_turn {v : Nat} {σ : Nat → Nat → Int32} {s k : Nat} {p : Int32} : ∀ j, j ≠ k → agn v σ s j = agn v (turnS σ k p) s j := by
  intro j hj
  unfold agn at8
  show _ = (!(σ 0 j == 0) && (!(upd (σ 4) k p j == 0) && (sg8 v s (σ 1 j) (σ 2 j) (σ 3 j) == -(upd (σ 4) k p j))))
  rw [pk_un hj]
theorem mis_turn {v : Nat} {σ : Nat → Nat → Int32} {s k : Nat} {p : Int32} (hk : k < 24) : mis v (turnS σ k p) s + (if agn v σ s k then wN σ k else 0) = mis v σ s + (if agn v (turnS σ k p) s k then wN σ k else 0) := misN_turn agn_turn (fun _ => rfl) 24 hk
theorem mis_drop {v : Nat} {σ : Nat → Nat → Int32} {k : Nat} : mis v (dropS σ k) = mis v (turnS σ k 0) := by
  funext s
  have h : ∀ j, agn v (dropS σ k) s j = agn v (turnS σ k 0) s j := by
    intro j
    unfold agn at8
    show (!(upd (σ 0) k 0 j == 0) && (!(σ 4 j == 0) && (sg8 v s (σ 1 j) (σ 2 j) (σ 3 j) == -(σ 4 j)))) = (!(σ 0 j == 0) && (!(upd (σ 4) k 0 j == 0) && (sg8 v s (σ 1 j) (σ 2 j) (σ 3 j) == -(upd (σ 4) k 0 j))))
    by_cases c : j = k
    · subst c; rw [pk_us, pk_us]; simp
    · rw [pk_un c, pk_un c]
  have : ∀ n, misN v (dropS σ k) s n = misN v (turnS σ k 0) s n := by
    intro n
    induction n with
    | zero => rfl
    | succ n ih => rw [misN, misN, ih, h n]; rfl
  exact this 24
theorem lst_cong {v : Nat} {σ τ : Nat → Nat → Int32} (h : mis v σ = mis v τ) : lst v σ = lst v τ := by unfold lst; rw [h]
theorem nKp_cong {v e : Nat} {σ τ : Nat → Nat → Int32} (h : mis v σ = mis v τ) : nKp v σ e = nKp v τ e := by
  unfold nKp
  refine ct_cong (fun k _ => ?_)
  unfold kep
  rw [h, lst_cong h]
theorem tell_drop {v e : Nat} {σ : Nat → Nat → Int32} {k : Nat} {w : Int32} : A_tell v (dropS σ k) e w = A_tell v (turnS σ k 0) e w := by
  unfold A_tell
  rw [lst_cong mis_drop, nKp_cong mis_drop]
theorem agn_lt {v : Nat} {σ : Nat → Nat → Int32} {s k : Nat} (c0 : ¬ σ 0 k = 0) (h4 : σ 4 k = -1 ∨ σ 4 k = 0 ∨ σ 4 k = 1) : agn v σ s k = true ↔ ¬ 0 ≤ sg8 v s (σ 1 k) (σ 2 k) (σ 3 k) * σ 4 k := by
  unfold agn at8
  have a3 : sg8 v s (σ 1 k) (σ 2 k) (σ 3 k) = 1 ∨ sg8 v s (σ 1 k) (σ 2 k) (σ 3 k) = 0 ∨ sg8 v s (σ 1 k) (σ 2 k) (σ 3 k) = -1 := by
    unfold sg8
    have p1 := sgn_3 (pX (pA v (s / 2)) * σ 1 k + pY (pA v (s / 2)) * σ 2 k + pZ (pA v (s / 2)) * σ 3 k)
    have p2 := sgn_3 (pX (pB v (s / 2)) * σ 1 k + pY (pB v (s / 2)) * σ 2 k + pZ (pB v (s / 2)) * σ 3 k)
    have p3 := sense_2 s
    unfold ps
    rcases p1 with p1 | p1 | p1 <;> rcases p2 with p2 | p2 | p2 <;> rcases p3 with p3 | p3 <;> rw [p1, p2, p3] <;> decide
  generalize sg8 v s (σ 1 k) (σ 2 k) (σ 3 k) = a at *
  simp only [Bool.and_eq_true, Bool.not_eq_true', beq_eq_false_iff_ne, beq_iff_eq, ne_eq]
  rcases a3 with a3 | a3 | a3 <;> rcases h4 with h4 | h4 | h4 <;> rw [a3, h4] <;> simp [c0] <;> decide
/-- the histogram -/
def hisT (v : Nat) (τ : Nat → Nat → Int32) (n : Nat) (H : Nat → Int32) : Prop := ∀ m, m ≤ 96 → H m = nI (ct (fun s => mis v τ s == m) n)
theorem cm_L44 {v k : Nat} {σ : Nat → Nat → Int32} {M A C W : Nat → Int32} {p : Int32} {K : Int32 → (Nat → Int32) → Prop} (h1 : 1 ≤ v) (h3 : v ≤ 3) (hw : wfS σ) (hk : k < 24) (c0 : ¬ σ 0 k = 0) (hp : p = -1 ∨ p = 0 ∨ p = 1) (hAB : ∀ k, k < nPr v → A k = nI (pA v k) ∧ C k = nI (pB v k)) (hW : ∀ j, j < nPol v → W j = ps j (σ 1 k) (σ 2 k) (σ 3 k)) (hM : ∀ s, s < 2 * nPr v → M s = nI (mis v σ s))
    (hK : ∀ w H, hisT v (turnS σ k p) (2 * nPr v) H → K w H) : ∀ (r s : Nat) (H : Nat → Int32), s + r = 2 * nPr v → hisT v (turnS σ k p) s H → wp_X3_countMisfitsWith_L44 (nI k) p (2 * nPr v) (nPr v) (nPol v) M A C (σ 4) W (σ 5 k) K (r + 1) (nI s) H := by
  have hb := nPr_b h1 h3
  have on : Int32.ofNat (2 * nPr v) = nI (2 * nPr v) := rfl
  have hw2 := wf_turnS (k := k) hw hp
  obtain ⟨ew, hwl⟩ := hw.w hk
  have h4 := (hw k hk).2.1
  intro r
  induction r with
  | zero =>
    intro s H hs hH
    unfold wp_X3_countMisfitsWith_L44
    have e1 : s = 2 * nPr v := by omega
    subst e1
    exact ⟨fun _ => hK _ _ hH, fun h => absurd (nI_le (Nat.le_refl _) (by omega)) h⟩
  | succ r ih =>
    intro s H hs hH
    have hsl : s < 2 * nPr v := by omega
    have kv : vp_in (nI k) 24 := vp_in_nI hk (by decide)
    have sv : vp_in (nI s) (2 * nPr v) := vp_in_nI hsl (by omega)
    have mt := mis_turn (v := v) (σ := σ) (s := s) (p := p) hk
    have ml := mis_le (v := v) hw2 s
    have ml0 := mis_le (v := v) hw s
    have g1 := agn_lt (v := v) (s := s) c0 h4
    have g2 : agn v (turnS σ k p) s k = true ↔ ¬ 0 ≤ sg8 v s (σ 1 k) (σ 2 k) (σ 3 k) * p := by
      have := agn_lt (v := v) (σ := turnS σ k p) (s := s) (k := k) c0 (by show upd (σ 4) k p k = -1 ∨ upd (σ 4) k p k = 0 ∨ upd (σ 4) k p k = 1; rw [pk_us]; exact hp)
      rw [this]
      show ¬ 0 ≤ sg8 v s (σ 1 k) (σ 2 k) (σ 3 k) * upd (σ 4) k p k ↔ _
      rw [pk_us]
    -- one more counted
    have fin : ∀ x : Int32, x = nI (mis v (turnS σ k p) s) → (x < 0 → wp_X3_countMisfitsWith_L44 (nI k) p (2 * nPr v) (nPr v) (nPol v) M A C (σ 4) W (σ 5 k) K (r + 1) (nI (s + 1)) H) ∧ (¬ x < 0 → (96 < x → wp_X3_countMisfitsWith_L44 (nI k) p (2 * nPr v) (nPr v) (nPol v) M A C (σ 4) W (σ 5 k) K (r + 1) (nI (s + 1)) H) ∧ (¬ 96 < x → vp_in x 97 ∧ (∀ y : Int32, y = (H x.toNatClampNeg) + 1 → vp_in x 97 ∧ (wp_X3_countMisfitsWith_L44 (nI k) p (2 * nPr v) (nPr v) (nPol v) M A C (σ 4) W (σ 5 k) K (r + 1) (nI (s + 1)) (upd H x.toNatClampNeg y))))) := by
      intro x ex
      rw [ex, nI_clamp (n := mis v (turnS σ k p) s) (by omega)]
      have n0 : ¬ nI (mis v (turnS σ k p) s) < 0 := fun q => by
        rw [← nI_0] at q
        have := (nI_ltI (by omega) (by decide)).mp q
        omega
      have n9 : ¬ (96 : Int32) < nI (mis v (turnS σ k p) s) := fun q => by
        have := (nI_ltI (a := 96) (by decide) (by omega)).mp q
        omega
      have xv : vp_in (nI (mis v (turnS σ k p) s)) 97 := vp_in_nI (by omega) (by decide)
      refine ⟨fun q => absurd q n0, fun _ => ⟨fun q => absurd q n9, fun _ => ⟨xv, fun y ey => ⟨xv, ih (s + 1) _ (by omega) (fun m hm => ?_)⟩⟩⟩⟩
      rw [ct]
      by_cases q : m = mis v (turnS σ k p) s
      · subst q
        rw [pk_us, ey, hH _ hm, nI_1]
        simp
      · rw [pk_un q, hH m hm, if_neg (by simp; omega)]
        rfl
    unfold wp_X3_countMisfitsWith_L44
    rw [on, nI_clamp (n := k) (by omega), nI_clamp (n := s) (by omega), hM s hsl, nI_1]
    refine ⟨fun h => absurd h (nI_ge (by omega) (by omega)), fun _ => s_X1_seenSign h1 h3 hAB hW hsl ⟨kv, fun a => ⟨fun b => ⟨sv, fun x ex => fin x ?_⟩, fun b => ⟨sv, fun x ex => fin x ?_⟩⟩, fun a => ⟨fun b => ⟨sv, fun x ex => fin x ?_⟩, fun b => ⟨sv, fun x ex => fin x ?_⟩⟩⟩⟩
    · have n1 : ¬ agn v σ s k = true := fun q => (g1.mp q) a
      have n2 : ¬ agn v (turnS σ k p) s k = true := fun q => (g2.mp q) b
      rw [if_neg n1, if_neg n2] at mt
      rw [ex, show mis v (turnS σ k p) s = mis v σ s by omega]
      grind
    · have n1 : ¬ agn v σ s k = true := fun q => (g1.mp q) a
      rw [if_neg n1, if_pos (g2.mpr b)] at mt
      rw [ex, ew, show mis v (turnS σ k p) s = mis v σ s + wN σ k by omega, ← nI_add]
      grind
    · have n2 : ¬ agn v (turnS σ k p) s k = true := fun q => (g2.mp q) b
      rw [if_pos (g1.mpr a), if_neg n2] at mt
      rw [ex, ew, show mis v σ s = mis v (turnS σ k p) s + wN σ k by omega, ← nI_add]
      grind
    · rw [if_pos (g1.mpr a), if_pos (g2.mpr b)] at mt
      rw [ex, ew, show mis v (turnS σ k p) s = mis v σ s by omega]
      grind
theorem ct_0 {p : Nat → Bool} : ∀ {n : Nat}, ct p n = 0 → ∀ k, k < n → ¬ p k = true
  | n + 1, h, k, hk => by
    rw [ct] at h
    by_cases c : k = n
    · subst c
      intro q
      rw [if_pos q] at h
      omega
    · exact ct_0 (n := n) (by omega) k (by omega)
theorem ct_pos {p : Nat → Bool} : ∀ {n : Nat}, ct p n ≠ 0 → ∃ k, k < n ∧ p k = true
  | 0, h => absurd rfl h
  | n + 1, h => by
    rw [ct] at h
    by_cases c : p n = true
    · exact ⟨n, by omega, c⟩
    · rw [if_neg c] at h
      obtain ⟨k, h1, h2⟩ := ct_pos (n := n) h
      exact ⟨k, by omega, h2⟩
theorem lo_L2 {v : Nat} {τ : Nat → Nat → Int32} {H : Nat → Int32} {K : Int32 → Prop} (h1 : 1 ≤ v) (h3 : v ≤ 3) (hw : wfS τ) (hH : hisT v τ (2 * nPr v) H) (hK : K (nI (lst v τ))) : ∀ (r m : Nat), m + r = 96 → m ≤ lst v τ → wp_X3_lowestCounted_L2 H K (r + 1) (nI m) := by
  have hb := nPr_b h1 h3
  have hl : lst v τ ≤ 96 := minN_le96 _ _
  have l96 : ∀ {w : Nat}, w < 2 ^ 31 → ((96 : Int32) ≤ nI w ↔ 96 ≤ w) := fun {w} h => nI_leI (a := 96) (by decide) h
  obtain ⟨s0, q1, q2⟩ := minN_at (mis v τ) (fun k => mis_le hw k) (2 * nPr v) (by omega)
  intro r
  induction r with
  | zero =>
    intro m hm hle
    unfold wp_X3_lowestCounted_L2
    have e1 : m = lst v τ := by omega
    have e2 : m = 96 := by omega
    refine ⟨fun _ => by rw [e1]; exact hK, fun c => absurd ((l96 (by omega)).mpr (by omega)) c⟩
  | succ r ih =>
    intro m hm hle
    unfold wp_X3_lowestCounted_L2
    have hct := ct_le (fun s => mis v τ s == m) (2 * nPr v)
    rw [nI_clamp (n := m) (by omega), hH m (by omega), nI_1, nI_eq0 (by omega)]
    refine ⟨fun c => absurd ((l96 (by omega)).mp c) (by omega), fun _ => ⟨vp_in_nI (by omega) (by decide), fun c => ih (m + 1) (by omega) ?_, fun c => ?_⟩⟩
    · have := ct_0 c s0 q1
      have hne : mis v τ s0 ≠ m := by simpa using this
      have : lst v τ = mis v τ s0 := q2
      omega
    · obtain ⟨s, a1, a2⟩ := ct_pos c
      have e1 : mis v τ s = m := by simpa using a2
      have e2 : lst v τ ≤ mis v τ s := minN_le _ a1
      rw [show m = lst v τ by omega]
      exact hK
theorem cf_L5 {v e : Nat} {τ : Nat → Nat → Int32} {H : Nat → Int32} {K : Int32 → Int32 → Prop} (h1 : 1 ≤ v) (h3 : v ≤ 3) (he : e ≤ 9) (hw : wfS τ) (hH : hisT v τ (2 * nPr v) H) (hK : ∀ w, K (nI (nKp v τ e)) w) : ∀ (r m : Nat), m + r = 97 → m ≤ lst v τ + e + 1 → wp_X3_countedFrom_L5 (nI (lst v τ)) (nI e) H K (r + 1) (nI (ct (fun s => decide (mis v τ s < m)) (2 * nPr v))) (nI m) := by
  have hl : lst v τ ≤ 96 := minN_le96 _ _
  have l96 : ∀ {w : Nat}, w < 2 ^ 31 → ((96 : Int32) < nI w ↔ 96 < w) := fun {w} h => nI_ltI (a := 96) (by decide) h
  have done : ∀ m, (96 < m ∨ lst v τ + e < m) → m ≤ lst v τ + e + 1 → ct (fun s => decide (mis v τ s < m)) (2 * nPr v) = nKp v τ e := by
    intro m hm hm2
    unfold nKp
    refine ct_cong (fun k _ => ?_)
    have := mis_le (v := v) hw k
    unfold kep
    rw [decide_eq_decide]
    omega
  intro r
  induction r with
  | zero =>
    intro m hm hle
    unfold wp_X3_countedFrom_L5
    rw [done m (by omega) hle]
    exact ⟨fun _ => hK _, fun c => absurd ((l96 (by omega)).mpr (by omega)) c⟩
  | succ r ih =>
    intro m hm hle
    unfold wp_X3_countedFrom_L5
    have el : nI (lst v τ + e) < nI m ↔ lst v τ + e < m := nI_ltI (by omega) (by omega)
    rw [nI_clamp (n := m) (by omega), hH m (by omega), nI_1, nI_add, el]
    refine ⟨fun c => absurd ((l96 (by omega)).mp c) (by omega), fun _ => ⟨fun c => ?_, fun c => ⟨vp_in_nI (by omega) (by decide), fun x ex => ?_⟩⟩⟩
    · rw [done m (Or.inr c) hle]; exact hK _
    · have nx := ih (m + 1) (by omega) (by omega)
      have ea : ct (fun s => decide (mis v τ s < m + 1)) (2 * nPr v) = ct (fun s => decide (mis v τ s < m)) (2 * nPr v) + ct (fun s => mis v τ s == m) (2 * nPr v) := by
        refine ct_add (fun k _ => ⟨?_, ?_⟩)
        · rw [Bool.eq_iff_iff]
          simp
          omega
        · simp
          omega
      rw [ea] at nx
      rw [ex, nI_add]
      exact nx
def RK (v : Nat) (σ : Nat → Nat → Int32) (e : Nat) (M N O P : Nat → Int32) (kp ls : Int32) : Prop := tabC v σ M N ∧ tabO v σ e O P ∧ kp = nI (nKp v σ e) ∧ ls = nI (lst v σ)
def rvOK (n : Nat) (rv : Int32) : Prop := rv = -1 ∨ ∃ m : Nat, m ≤ n ∧ rv = nI m
def RI (v : Nat) (σ : Nat → Nat → Int32) (e n : Nat) (M N O P : Nat → Int32) (kp ls rv : Int32) : Prop := rvOK n rv ∧ (rv = nI n → RK v σ e M N O P kp ls)
def BI (v : Nat) (σ : Nat → Nat → Int32) (e n : Nat) (c su sl ce bv : Int32) : Prop := rvOK n bv ∧ (bv = nI n → BK v σ e c su sl ce)
abbrev QR : Type := (Nat → Int32) → (Nat → Int32) → (Nat → Int32) → (Nat → Int32) → Int32 → Int32 → Int32 → (Nat → Int32) → (Nat → Int32) → Prop
abbrev QW : Type := (Nat → Int32) → (Nat → Int32) → (Nat → Int32) → (Nat → Int32) → Int32 → Int32 → Int32 → (Nat → Int32) → (Nat → Int32) → (Nat → Int32) → Prop
abbrev QB : Type := (Nat → Int32) → (Nat → Int32) → (Nat → Int32) → (Nat → Int32) → Int32 → Int32 → Int32 → (Nat → Int32) → Int32 → Int32 → Int32 → Int32 → Int32 → (Nat → Int32) → (Nat → Int32) → (Nat → Int32) → Int32 → Int32 → (Nat → Int32) → Prop
def okR (v : Nat) (σ : Nat → Nat → Int32) (e n : Nat) (Q : QR) : Prop := ∀ M N O P kp ls rv B W, RI v σ e n M N O P kp ls rv → Q M N O P kp ls rv B W
def okW (v : Nat) (σ : Nat → Nat → Int32) (e n : Nat) (Q : QW) : Prop := ∀ M N O P kp ls rv H B W, RI v σ e n M N O P kp ls rv → Q M N O P kp ls rv H B W
def okB (v : Nat) (σ : Nat → Nat → Int32) (e n : Nat) (Q : QB) : Prop := ∀ M N O P kp ls rv B c su sl ce bv H A F fu fl W, RI v σ e n M N O P kp ls rv → BI v σ e n c su sl ce bv → Q M N O P kp ls rv B c su sl ce bv H A F fu fl W
section CR
variable {v e n : Nat} {σ : Nat → Nat → Int32} {X Y Z A C : Nat → Int32} {M N O P B W : Nat → Int32} {kp ls rv : Int32}
theorem s_X5_rankingNow {Q : QR} (h1 : 1 ≤ v) (h3 : v ≤ 3) (he : e ≤ 9) (hw : wfS σ) (hg : geo v X Y Z A C) (hr : RI v σ e n M N O P kp ls rv) (h : ∀ M N O P B W, RK v σ e M N O P (nI (nKp v σ e)) (nI (lst v σ)) → Q M N O P (nI (nKp v σ e)) (nI (lst v σ)) (nI n) B W) : wp_X5_rankingNow (2 * nPr v) (nPr v) (nPr v) (nPol v) (nI e) (nI n) M N O P kp ls rv B (nI (nPol v)) A C W X Y Z (σ 0) (σ 1) (σ 2) (σ 3) (σ 4) (σ 5) Q := by
  unfold wp_X5_rankingNow
  refine ⟨fun c => ?_, fun c => s_X3_refresh h1 h3 he hw hg (fun M' N' O' P' B' W' hC hO => h M' N' O' P' B' W' ⟨hC, hO, rfl, rfl⟩)⟩
  have q := hr.2 c
  obtain ⟨q1, q2, q3, q4⟩ := id q
  rw [c, q3, q4]
  rw [q3, q4] at q
  exact h M N O P B W q
theorem RI_of {M N O P : Nat → Int32} {kp ls : Int32} (h : RK v σ e M N O P kp ls) : RI v σ e n M N O P kp ls (nI n) := ⟨Or.inr ⟨n, Nat.le_refl _, rfl⟩, fun _ => h⟩
theorem s_X5_keptAtStation {k : Nat} {p : Int32} {Q : Int32 → QR} (h1 : 1 ≤ v) (h3 : v ≤ 3) (he : e ≤ 9) (hw : wfS σ) (hg : geo v X Y Z A C) (hr : RI v σ e n M N O P kp ls rv) (hk : k < 24) (h : okR v σ e n (Q (A_at v σ e k p))) : wp_X5_keptAtStation (nI k) p (2 * nPr v) (nPr v) (nPr v) (nPol v) (nI e) (nI n) M N O P kp ls rv B (nI (nPol v)) A C W X Y Z (σ 0) (σ 1) (σ 2) (σ 3) (σ 4) (σ 5) Q := by
  have kv : vp_in (nI k) 24 := vp_in_nI hk (by decide)
  unfold wp_X5_keptAtStation
  unfold A_at at h
  rw [nI_clamp (n := k) (by omega)]
  refine ⟨kv, fun c => ?_, fun c => ?_⟩
  · rw [cif_pos c] at h
    exact h _ _ _ _ _ _ _ _ _ hr
  · rw [cif_neg c] at h
    exact s_X5_rankingNow h1 h3 he hw hg hr (fun M N O P B W q => ⟨kv, kv, kv, s_X3_keptWithSign h1 h3 hw hg q.2.1.1 (fun W' => h _ _ _ _ _ _ _ _ _ (RI_of q))⟩)
theorem s_X5_ofStation {k i : Int32} {Q : Int32 → QR} (h1 : 1 ≤ v) (h3 : v ≤ 3) (he : e ≤ 9) (hw : wfS σ) (hg : geo v X Y Z A C) (hr : RI v σ e n M N O P kp ls rv) (h : okR v σ e n (Q (A_of v σ e k i))) : wp_X5_ofStation k i (2 * nPr v) (nPr v) (nPr v) (nPol v) (nI e) (nI n) M N O P kp ls rv B (nI (nPol v)) A C W X Y Z (σ 0) (σ 1) (σ 2) (σ 3) (σ 4) (σ 5) Q := by
  unfold wp_X5_ofStation
  unfold A_of at h
  refine s_X4_has (fun c => ⟨fun h => absurd h (by decide), fun _ => ?_⟩) (fun c => ⟨fun _ => ?_, fun h => absurd rfl h⟩)
  · rw [cif_pos c] at h
    have i1 := c.1.vp (by decide)
    obtain ⟨b0, b1, b2, b3, b4, b5, b6, b7⟩ := cif7c (Q := fun r => okR v σ e n (Q r)) h
    have nw : ∀ {r : Int32}, okR v σ e n (Q r) → Q r M N O P kp ls rv B W := fun q => q _ _ _ _ _ _ _ _ _ hr
    refine ⟨fun e0 => ⟨i1, nw (b0 e0)⟩, fun e0 => ⟨i1, nw (b1 e0)⟩, fun e0 => ⟨i1, nw (b2 e0)⟩, fun e0 => ⟨i1, nw (b3 e0)⟩, fun e0 => ⟨i1, nw (b4 e0)⟩, fun e0 => ⟨i1, ?_⟩, fun e0 => ?_, fun f0 f1 f2 f3 f4 f5 f6 => nw (b7 f0 f1 f2 f3 f4 f5 f6)⟩
    · have q := s_X5_keptAtStation (B := B) (W := W) (k := k.toNatClampNeg) (p := -(σ 4 k.toNatClampNeg)) (Q := Q) h1 h3 he hw hg hr c.1.2 (b5 e0)
      rw [← c.1.1] at q
      exact q
    · have q := s_X5_keptAtStation (B := B) (W := W) (k := k.toNatClampNeg) (p := 0) (Q := Q) h1 h3 he hw hg hr c.1.2 (b6 e0)
      rw [← c.1.1] at q
      exact q
  · rw [cif_neg c] at h
    exact h _ _ _ _ _ _ _ _ _ hr
theorem s_X5_solution {s i : Int32} {Q : Int32 → QR} (h1 : 1 ≤ v) (h3 : v ≤ 3) (he : e ≤ 9) (hw : wfS σ) (hg : geo v X Y Z A C) (hr : RI v σ e n M N O P kp ls rv) (h : okR v σ e n (Q (A_sol v σ e s i))) : wp_X5_solution s i (2 * nPr v) (nPr v) (nPr v) (nPol v) (nI e) (nI n) M N O P kp ls rv B (nI (nPol v)) (nI (nPr v)) A C W X Y Z (σ 0) (σ 1) (σ 2) (σ 3) (σ 4) (σ 5) Q := by
  have hb := nPr_b h1 h3
  unfold wp_X5_solution
  unfold A_sol at h
  refine s_X1_hasSolution h1 h3 (fun c => ⟨fun h => absurd h (by decide), fun _ => ?_⟩) (fun c => ⟨fun _ => ?_, fun h => absurd rfl h⟩)
  · rw [cif_pos c] at h
    have i1 := c.vp (by omega)
    obtain ⟨e2, l2⟩ := half_of c (by omega)
    obtain ⟨b0, b1, b2, b3, b4, b5⟩ := cif5c (Q := fun r => okR v σ e n (Q r)) h
    have nw : ∀ {r : Int32}, okR v σ e n (Q r) → Q r M N O P kp ls rv B W := fun q => q _ _ _ _ _ _ _ _ _ hr
    refine ⟨fun e0 => s_X5_rankingNow h1 h3 he hw hg hr (fun M N O P B W q => ⟨i1, ?_⟩), fun e0 => s_X5_rankingNow h1 h3 he hw hg hr (fun M N O P B W q => ?_), fun e0 => ?_, fun e0 => ?_, fun e0 => s_X5_rankingNow h1 h3 he hw hg hr (fun M N O P B W q => ⟨i1, ?_⟩), fun f0 f1 f2 f3 f4 => nw (b5 f0 f1 f2 f3 f4)⟩
    · rw [q.1.1 _ c.2]; exact b0 e0 _ _ _ _ _ _ _ _ _ (RI_of q)
    · rw [e2, nI_clamp (n := s.toNatClampNeg / 2) (by omega), q.1.2 _ c.2]
      exact ⟨vp_in_nI l2 (by omega), b1 e0 _ _ _ _ _ _ _ _ _ (RI_of q)⟩
    · rw [c.1]; exact s_X4_countAgainst h1 h3 hg c.2 (nw (b2 e0))
    · rw [c.1]; exact s_X1_signAlong h1 h3 hg c.2 (nw (b3 e0))
    · rw [q.2.1.2 _ c.2]; exact b4 e0 _ _ _ _ _ _ _ _ _ (RI_of q)
  · rw [cif_neg c] at h
    exact h _ _ _ _ _ _ _ _ _ hr
theorem s_X5_kept {k : Int32} {Q : Int32 → QR} (h1 : 1 ≤ v) (h3 : v ≤ 3) (he : e ≤ 9) (hw : wfS σ) (hg : geo v X Y Z A C) (hr : RI v σ e n M N O P kp ls rv) (h : okR v σ e n (Q (A_kept v σ e k))) : wp_X5_kept k (2 * nPr v) (nPr v) (nPr v) (nPol v) (nI e) (nI n) M N O P kp ls rv B (nI (nPol v)) A C W X Y Z (σ 0) (σ 1) (σ 2) (σ 3) (σ 4) (σ 5) Q := by
  have hb := nPr_b h1 h3
  have hkl : nKp v σ e ≤ 2 * nPr v := ct_le _ _
  unfold wp_X5_kept
  refine s_X5_rankingNow h1 h3 he hw hg hr (fun M N O P B W q => ?_)
  have h := h M N O P _ _ _ B W (RI_of q)
  unfold A_kept at h
  by_cases c : lessN (nKp v σ e) k
  · rw [cif_pos c] at h
    have cc := lessN_0 (by omega) c
    rw [q.2.1.1 _ c.2]
    exact ⟨fun d => absurd d (by grind), fun _ => ⟨fun _ => ⟨by rw [c.1]; exact vp_in_nI (by have := c.2; omega) (by omega), h⟩, fun d => absurd cc.2 d⟩⟩
  · rw [cif_neg c] at h
    exact ⟨fun _ => h, fun d => ⟨fun d2 => absurd (lessN_of (by omega) (by grind) d2) c, fun _ => h⟩⟩
theorem s_X5_foretold {px py pz s : Int32} {Q : Int32 → QR} (h1 : 1 ≤ v) (h3 : v ≤ 3) (he : e ≤ 9) (hw : wfS σ) (hg : geo v X Y Z A C) (hr : RI v σ e n M N O P kp ls rv) (h : okR v σ e n (Q (A_fore v σ e px py pz s))) : wp_X5_foretold px py pz s (2 * nPr v) (nPr v) (nPr v) (nPol v) (nI e) (nI n) M N O P kp ls rv B (nI (nPol v)) A C W X Y Z (σ 0) (σ 1) (σ 2) (σ 3) (σ 4) (σ 5) Q := by
  unfold wp_X5_foretold
  unfold A_fore at h
  refine s_X5_isTriple (fun c => ⟨fun h => absurd h (by decide), fun _ => ?_⟩) (fun c => ⟨fun _ => ?_, fun h => absurd rfl h⟩)
  · rw [cif_pos c] at h
    by_cases d : -1 ≤ s ∧ s ≤ 1
    · rw [cif_pos d] at h
      exact ⟨fun x => absurd x (by grind), fun _ => ⟨fun _ => s_X5_rankingNow h1 h3 he hw hg hr (fun M N O P B W q => s_X3_keptWithSign h1 h3 hw hg q.2.1.1 (fun W' => h _ _ _ _ _ _ _ _ _ (RI_of q))), fun x => absurd x (by grind)⟩⟩
    · rw [cif_neg d] at h
      have hh := h _ _ _ _ _ _ _ B W hr
      exact ⟨fun _ => hh, fun x => ⟨fun y => absurd (by grind) d, fun _ => hh⟩⟩
  · rw [cif_neg c] at h
    exact h _ _ _ _ _ _ _ _ _ hr
theorem s_X5_wouldBe {H : Nat → Int32} {k : Nat} {p w : Int32} {Q : Int32 → QW} (h1 : 1 ≤ v) (h3 : v ≤ 3) (he : e ≤ 9) (hw : wfS σ) (hg : geo v X Y Z A C) (hr : RI v σ e n M N O P kp ls rv) (hk : k < 24) (c0 : ¬ σ 0 k = 0) (hp : p = -1 ∨ p = 0 ∨ p = 1) (h : okW v σ e n (Q (A_tell v (turnS σ k p) e w))) : wp_X5_wouldBe (nI k) p w (2 * nPr v) (nPr v) (nPr v) (nPol v) (nI e) (nI n) M N O P kp ls rv H B (nI (nPol v)) A C W X Y Z (σ 0) (σ 1) (σ 2) (σ 3) (σ 4) (σ 5) Q := by
  have kv : vp_in (nI k) 24 := vp_in_nI hk (by decide)
  have hw2 := wf_turnS (k := k) hw hp
  have hl : lst v (turnS σ k p) ≤ 96 := minN_le96 _ _
  unfold wp_X5_wouldBe
  refine s_X5_rankingNow h1 h3 he hw hg hr (fun M N O P B W q => ?_)
  unfold wp_X3_countMisfitsWith
  rw [nI_clamp (n := k) (by omega)]
  refine ⟨kv, kv, kv, s_X1_lookAlong hg.1 (fun W' hW => ⟨kv, fun x2 e2 => s_fill (by omega) (fun H0 hH0 => ?_)⟩)⟩
  rw [e2]
  refine ⟨2 * nPr v + 1, cm_L44 h1 h3 hw hk c0 hp hg.2 hW q.1.1 (fun w' H' hH => ?_) (2 * nPr v) 0 H0 (by omega) (fun m hm => hH0 m (by omega))⟩
  have hh := h M N O P _ _ _ H' B W' (RI_of q)
  unfold A_tell at hh
  refine ⟨97, lo_L2 h1 h3 hw2 hH ⟨fun c => ?_, fun c => ⟨97 - lst v (turnS σ k p) + 1, ?_⟩⟩ 96 0 (by omega) (by omega)⟩
  · rw [cif_pos c] at hh; exact hh
  · rw [cif_neg c] at hh
    have := cf_L5 h1 h3 he hw2 hH (K := fun a _ => Q a M N O P (nI (nKp v σ e)) (nI (lst v σ)) (nI n) H' B W') (fun _ => hh) (97 - lst v (turnS σ k p)) (lst v (turnS σ k p)) (by omega) (by omega)
    have e0 : ct (fun s => decide (mis v (turnS σ k p) s < lst v (turnS σ k p))) (2 * nPr v) = 0 := by
      by_cases z : ct (fun s => decide (mis v (turnS σ k p) s < lst v (turnS σ k p))) (2 * nPr v) = 0
      · exact z
      · obtain ⟨s, a1, a2⟩ := ct_pos z
        have a3 : mis v (turnS σ k p) s < lst v (turnS σ k p) := by simpa using a2
        have a4 : lst v (turnS σ k p) ≤ mis v (turnS σ k p) s := minN_le _ a1
        omega
    rw [e0] at this
    exact this
theorem s_X5_without {H : Nat → Int32} {k w : Int32} {Q : Int32 → QW} (h1 : 1 ≤ v) (h3 : v ≤ 3) (he : e ≤ 9) (hw : wfS σ) (hg : geo v X Y Z A C) (hr : RI v σ e n M N O P kp ls rv) (h : okW v σ e n (Q (A_without v σ e k w))) : wp_X5_without k w (2 * nPr v) (nPr v) (nPr v) (nPol v) (nI e) (nI n) M N O P kp ls rv H B (nI (nPol v)) A C W X Y Z (σ 0) (σ 1) (σ 2) (σ 3) (σ 4) (σ 5) Q := by
  unfold wp_X5_without
  unfold A_without at h
  refine s_X4_has (fun c => ⟨fun h => absurd h (by decide), fun _ => ?_⟩) (fun c => ⟨fun _ => ?_, fun h => absurd rfl h⟩)
  · rw [cif_pos c] at h
    by_cases d : 0 ≤ w ∧ w ≤ 1
    · rw [cif_pos d, tell_drop] at h
      refine ⟨fun x => absurd x (by grind), fun _ => ⟨fun _ => ?_, fun x => absurd x (by grind)⟩⟩
      have q := s_X5_wouldBe (H := H) (B := B) (W := W) (k := k.toNatClampNeg) (p := 0) (w := w) (Q := Q) h1 h3 he hw hg hr c.1.2 c.2 (by decide) h
      rw [← c.1.1] at q
      exact q
    · rw [cif_neg d] at h
      have hh := h _ _ _ _ _ _ _ H B W hr
      exact ⟨fun _ => hh, fun x => ⟨fun y => absurd (by grind) d, fun _ => hh⟩⟩
  · rw [cif_neg c] at h
    exact h _ _ _ _ _ _ _ _ _ _ hr
theorem s_X5_turned {H : Nat → Int32} {k w : Int32} {Q : Int32 → QW} (h1 : 1 ≤ v) (h3 : v ≤ 3) (he : e ≤ 9) (hw : wfS σ) (hg : geo v X Y Z A C) (hr : RI v σ e n M N O P kp ls rv) (h : okW v σ e n (Q (A_turned v σ e k w))) : wp_X5_turned k w (2 * nPr v) (nPr v) (nPr v) (nPol v) (nI e) (nI n) M N O P kp ls rv H B (nI (nPol v)) A C W X Y Z (σ 0) (σ 1) (σ 2) (σ 3) (σ 4) (σ 5) Q := by
  unfold wp_X5_turned
  unfold A_turned at h
  refine s_X4_has (fun c => ⟨fun h => absurd h (by decide), fun _ => ?_⟩) (fun c => ⟨fun _ => ?_, fun h => absurd rfl h⟩)
  · rw [cif_pos c] at h
    by_cases d : 0 ≤ w ∧ w ≤ 1
    · rw [cif_pos d] at h
      refine ⟨fun x => absurd x (by grind), fun _ => ⟨fun _ => ⟨c.1.vp (by decide), fun x2 e2 => ?_⟩, fun x => absurd x (by grind)⟩⟩
      rw [e2]
      refine ⟨fun t => ?_, fun t => ?_⟩
      · rw [cif_pos t] at h
        exact h _ _ _ _ _ _ _ _ _ _ hr
      · rw [cif_neg t] at h
        have t3 := (hw _ c.1.2).2.1
        have q := s_X5_wouldBe (H := H) (B := B) (W := W) (k := k.toNatClampNeg) (p := -(σ 4 k.toNatClampNeg)) (w := w) (Q := Q) h1 h3 he hw hg hr c.1.2 c.2 (neg3 t3).1 h
        rw [← c.1.1] at q
        exact q
    · rw [cif_neg d] at h
      have hh := h _ _ _ _ _ _ _ H B W hr
      exact ⟨fun _ => hh, fun x => ⟨fun y => absurd (by grind) d, fun _ => hh⟩⟩
  · rw [cif_neg c] at h
    exact h _ _ _ _ _ _ _ _ _ _ hr
end CR
section CB
variable {v e n : Nat} {σ : Nat → Nat → Int32} {X Y Z A C : Nat → Int32} {M N O P B W : Nat → Int32} {kp ls rv : Int32} {c su sl ce bv fu fl : Int32} {H A1 F AX XA YA ZA SA : Nat → Int32}
theorem BI_of {c su sl ce : Int32} (h : BK v σ e c su sl ce) : BI v σ e n c su sl ce (nI n) := ⟨Or.inr ⟨n, Nat.le_refl _, rfl⟩, fun _ => h⟩
theorem s_X5_bundleNow {Q : QB} (h1 : 1 ≤ v) (h3 : v ≤ 3) (he : e ≤ 9) (hw : wfS σ) (hg : geo v X Y Z A C) (hr : RI v σ e n M N O P kp ls rv) (ha : axT v AX XA YA ZA SA) (hbu : BI v σ e n c su sl ce bv) (h : ∀ M N O P B c su sl ce H A1 F fu fl W, RK v σ e M N O P (nI (nKp v σ e)) (nI (lst v σ)) → BK v σ e c su sl ce → Q M N O P (nI (nKp v σ e)) (nI (lst v σ)) (nI n) B c su sl ce (nI n) H A1 F fu fl W) : wp_X5_bundleNow (2 * nPr v) (nPr v) (nAx v) (nPr v) (nPol v) (nI e) (nI n) M N O P kp ls rv B c su sl ce bv H A1 F fu fl (nI (nPol v)) A C AX XA YA ZA SA W X Y Z (σ 0) (σ 1) (σ 2) (σ 3) (σ 4) (σ 5) Q := by
  unfold wp_X5_bundleNow
  refine s_X5_rankingNow h1 h3 he hw hg hr (fun M N O P B W q => ⟨fun d => ?_, fun d => s_X0_refresh h1 h3 hw ha q.2.1.1 (fun c su sl ce H A1 F fu fl b => h _ _ _ _ _ _ _ _ _ _ _ _ _ _ _ q b)⟩)
  rw [d]
  exact h _ _ _ _ _ _ _ _ _ _ _ _ _ _ _ q (hbu.2 d)
theorem s_X5_spread {w : Int32} {Q : Int64 → QB} (h1 : 1 ≤ v) (h3 : v ≤ 3) (he : e ≤ 9) (hw : wfS σ) (hg : geo v X Y Z A C) (hr : RI v σ e n M N O P kp ls rv) (ha : axT v AX XA YA ZA SA) (hbu : BI v σ e n c su sl ce bv) (h : okB v σ e n (Q (A_spread v σ e w))) : wp_X5_spread w (2 * nPr v) (nPr v) (nAx v) (nPr v) (nPol v) (nI e) (nI n) M N O P kp ls rv B c su sl ce bv H A1 F fu fl (nI (nPol v)) A C AX XA YA ZA SA W X Y Z (σ 0) (σ 1) (σ 2) (σ 3) (σ 4) (σ 5) Q := by
  unfold wp_X5_spread
  unfold A_spread at h
  by_cases d : 0 ≤ w ∧ w ≤ 1
  · rw [cif_pos d] at h
    refine ⟨fun x => absurd x (by grind), fun _ => ⟨fun _ => s_X5_bundleNow h1 h3 he hw hg hr ha hbu (fun M N O P B c su sl ce H A1 F fu fl W q b => ?_), fun x => absurd x (by grind)⟩⟩
    have hh := h M N O P _ _ _ B c su sl ce _ H A1 F fu fl W (RI_of q) (BI_of b)
    obtain ⟨b1, b2, b3, b4⟩ := b
    obtain ⟨f1, f2, f3, f4, _⟩ := sprd_ok (v := v) (e := e) h1 h3 hw
    rw [b2, b3, (n_of f1).1, (n_of (Int.le_of_lt f3)).1]
    rw [b2, b3, (n_of f1).1, (n_of (Int.le_of_lt f3)).1] at hh
    exact s_X5_leastTerm (by omega) (by omega) (by omega) hh
  · rw [cif_neg d] at h
    have hh := h _ _ _ _ _ _ _ B _ _ _ _ _ H A1 F fu fl W hr hbu
    exact ⟨fun _ => hh, fun x => ⟨fun y => absurd (by grind) d, fun _ => hh⟩⟩
theorem s_X5_centre {Q : Int32 → QB} (h1 : 1 ≤ v) (h3 : v ≤ 3) (he : e ≤ 9) (hw : wfS σ) (hg : geo v X Y Z A C) (hr : RI v σ e n M N O P kp ls rv) (ha : axT v AX XA YA ZA SA) (hbu : BI v σ e n c su sl ce bv) (h : okB v σ e n (Q (nI (cenS v σ e)))) : wp_X5_centre (2 * nPr v) (nPr v) (nAx v) (nPr v) (nPol v) (nI e) (nI n) M N O P kp ls rv B c su sl ce bv H A1 F fu fl (nI (nPol v)) A C AX XA YA ZA SA W X Y Z (σ 0) (σ 1) (σ 2) (σ 3) (σ 4) (σ 5) Q := by
  unfold wp_X5_centre
  refine s_X5_bundleNow h1 h3 he hw hg hr ha hbu (fun M N O P B c su sl ce H A1 F fu fl W q b => ?_)
  have hh := h M N O P _ _ _ B c su sl ce _ H A1 F fu fl W (RI_of q) (BI_of b)
  rw [b.2.2.2] at hh ⊢
  exact hh
theorem s_X5_many {i : Int32} {CU : Nat → Int32} {Q : Int32 → QB} (h1 : 1 ≤ v) (h3 : v ≤ 3) (he : e ≤ 9) (hw : wfS σ) (hg : geo v X Y Z A C) (hr : RI v σ e n M N O P kp ls rv) (ha : axT v AX XA YA ZA SA) (hbu : BI v σ e n c su sl ce bv) (hC : cuT CU) (h : okB v σ e n (Q (A_many v σ e i))) : wp_X5_many i (2 * nPr v) (nPr v) (nAx v) (nPr v) (nPol v) (nI v) (nI e) (nI n) M N O P kp ls rv B c su sl ce bv H A1 F fu fl (nI (nPol v)) (nI (nPr v)) A C AX XA YA ZA SA W X Y Z CU (σ 0) (σ 1) (σ 2) (σ 3) (σ 4) (σ 5) Q := by
  unfold wp_X5_many
  unfold A_many at h
  obtain ⟨b0, b1, b2, b3, b4, b5, b6, b7, b8, b9, b10⟩ := cif10c (Q := fun r => okB v σ e n (Q r)) h
  have nw : ∀ {r : Int32}, okB v σ e n (Q r) → Q r M N O P kp ls rv B c su sl ce bv H A1 F fu fl W := fun q => q _ _ _ _ _ _ _ _ _ _ _ _ _ _ _ _ _ _ _ hr hbu
  refine ⟨fun e0 => s_X4_count (nw (b0 e0)), fun e0 => ⟨v_in h3, ?_⟩, fun e0 => nw (b2 e0), fun e0 => s_X5_rankingNow h1 h3 he hw hg hr (fun M N O P B W q => b3 e0 _ _ _ _ _ _ _ _ _ _ _ _ _ _ _ _ _ _ _ (RI_of q) hbu), fun e0 => s_X5_rankingNow h1 h3 he hw hg hr (fun M N O P B W q => b4 e0 _ _ _ _ _ _ _ _ _ _ _ _ _ _ _ _ _ _ _ (RI_of q) hbu), fun e0 => s_X5_bundleNow h1 h3 he hw hg hr ha hbu (fun M N O P B c su sl ce H A1 F fu fl W q b => ?_), fun e0 => s_X5_rankingNow h1 h3 he hw hg hr (fun M N O P B W q => s_X3_keptWithSign h1 h3 hw hg q.2.1.1 (fun W' => b6 e0 _ _ _ _ _ _ _ _ _ _ _ _ _ _ _ _ _ _ _ (RI_of q) hbu)), fun e0 => s_X5_rankingNow h1 h3 he hw hg hr (fun M N O P B W q => s_X3_keptWithSign h1 h3 hw hg q.2.1.1 (fun W' => b7 e0 _ _ _ _ _ _ _ _ _ _ _ _ _ _ _ _ _ _ _ (RI_of q) hbu)), fun e0 => s_X5_rankingNow h1 h3 he hw hg hr (fun M N O P B W q => s_X3_keptWithSign h1 h3 hw hg q.2.1.1 (fun W' => b8 e0 _ _ _ _ _ _ _ _ _ _ _ _ _ _ _ _ _ _ _ (RI_of q) hbu)), fun e0 => s_X4_signedWeight hw (nw (b9 e0)), fun f0 f1 f2 f3 f4 f5 f6 f7 f8 f9 => nw (b10 f0 f1 f2 f3 f4 f5 f6 f7 f8 f9)⟩
  · rw [nI_clamp (n := v) (by omega), hC.at h1 h3]
    exact nw (b1 e0)
  · have hh := b5 e0 M N O P _ _ _ B c su sl ce _ H A1 F fu fl W (RI_of q) (BI_of b)
    rw [b.1] at hh ⊢
    exact hh
end CB
