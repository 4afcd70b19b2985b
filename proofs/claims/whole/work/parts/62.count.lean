/-! LEVEL 2: counting and looking up, in both classes -/
def ther (σ : Nat → Nat → Int32) (n : Nat) : Bool := !(σ 0 n == 0)
def cntS (σ : Nat → Nat → Int32) : Nat := ct (ther σ) 24
theorem st_L4 {σ : Nat → Nat → Int32} {K : Int32 → Int32 → Prop} (hK : ∀ w, K (nI (cntS σ)) w) : ∀ (r n : Nat), n + r = 24 → wp_X6_stations_L4 (σ 0) K (r + 1) (nI (ct (ther σ) n)) (nI n) := by
  intro r
  induction r with
  | zero =>
    intro n hn
    unfold wp_X6_stations_L4
    have e : n = 24 := by omega
    subst e
    exact ⟨fun _ => hK _, fun h => absurd ((le24 (by decide)).mpr (Nat.le_refl _)) h⟩
  | succ r ih =>
    intro n hn
    have i1 : vp_in (nI n) 24 := vp_in_nI (by omega) (by decide)
    have nx := ih (n + 1) (by omega)
    rw [ct] at nx
    unfold wp_X6_stations_L4
    rw [nI_clamp (n := n) (by omega)]
    simp only [nI_1, Int32.add_zero]
    refine ⟨fun h => absurd ((le24 (by omega)).mp h) (by omega), fun _ => ⟨i1, fun c x e => ?_, fun c x e => ?_⟩⟩
    · rw [if_neg (by simp [ther, c])] at nx; rw [e]; exact nx
    · rw [if_pos (by simp [ther, c])] at nx; rw [e]; exact nx
theorem s_X6_stations {σ : Nat → Nat → Int32} {Q : Int32 → Prop} (h : Q (nI (cntS σ))) : wp_X6_stations (σ 0) Q := ⟨25, st_L4 (fun _ => h) 24 0 (by omega)⟩
theorem sc_L4 {σ : Nat → Nat → Int32} {K : Int32 → Int32 → Prop} (hK : ∀ w, K (nI (cntS σ)) w) : ∀ (r n : Nat), n + r = 24 → wp_X4_count_L4 (σ 0) K (r + 1) (nI (ct (ther σ) n)) (nI n) := by
  intro r
  induction r with
  | zero =>
    intro n hn
    unfold wp_X4_count_L4
    have e : n = 24 := by omega
    subst e
    exact ⟨fun _ => hK _, fun h => absurd ((le24 (by decide)).mpr (Nat.le_refl _)) h⟩
  | succ r ih =>
    intro n hn
    have i1 : vp_in (nI n) 24 := vp_in_nI (by omega) (by decide)
    have nx := ih (n + 1) (by omega)
    rw [ct] at nx
    unfold wp_X4_count_L4
    rw [nI_clamp (n := n) (by omega)]
    simp only [nI_1]
    refine ⟨fun h => absurd ((le24 (by omega)).mp h) (by omega), fun _ => ⟨i1, fun c => ?_, fun c => ?_⟩⟩
    · rw [if_neg (by simp [ther, c])] at nx; exact nx
    · rw [if_pos (by simp [ther, c])] at nx; exact nx
theorem s_X4_count {σ : Nat → Nat → Int32} {Q : Int32 → Prop} (h : Q (nI (cntS σ))) : wp_X4_count (σ 0) Q := ⟨25, sc_L4 (fun _ => h) 24 0 (by omega)⟩
def sgB (σ : Nat → Nat → Int32) (n : Nat) : Bool := !(σ 0 n == 0) && !(σ 4 n == 0)
def sumN (σ : Nat → Nat → Int32) : Nat → Nat
  | 0 => 0
  | n + 1 => sumN σ n + (if sgB σ n then wN σ n else 0)
theorem we_L4 {σ : Nat → Nat → Int32} {K : Int32 → Int32 → Prop} (hw : wfS σ) (hK : ∀ w, K (nI (sumN σ 24)) w) : ∀ (r n : Nat), n + r = 24 → wp_X6_weights_L4 (σ 0) (σ 4) (σ 5) K (r + 1) (nI (sumN σ n)) (nI n) := by
  intro r
  induction r with
  | zero =>
    intro n hn
    unfold wp_X6_weights_L4
    have e : n = 24 := by omega
    subst e
    exact ⟨fun _ => hK _, fun h => absurd ((le24 (by decide)).mpr (Nat.le_refl _)) h⟩
  | succ r ih =>
    intro n hn
    have i1 : vp_in (nI n) 24 := vp_in_nI (by omega) (by decide)
    have nx := ih (n + 1) (by omega)
    rw [sumN] at nx
    obtain ⟨ew, _⟩ := hw.w (n := n) (by omega)
    unfold wp_X6_weights_L4
    rw [nI_clamp (n := n) (by omega), ew]
    simp only [nI_1, Int32.add_zero, nI_add]
    refine ⟨fun h => absurd ((le24 (by omega)).mp h) (by omega), fun _ => ⟨i1, fun c x e => ?_, fun c => ⟨i1, fun c2 x e => ?_, fun c2 => ⟨i1, fun x e => ?_⟩⟩⟩⟩
    · rw [if_neg (by simp [sgB, c])] at nx; rw [e]; exact nx
    · rw [if_neg (by simp [sgB, c2])] at nx; rw [e]; exact nx
    · rw [if_pos (by simp [sgB, c, c2])] at nx; rw [e]; exact nx
theorem s_X6_weights {σ : Nat → Nat → Int32} {Q : Int32 → Prop} (hw : wfS σ) (h : Q (nI (sumN σ 24))) : wp_X6_weights (σ 0) (σ 4) (σ 5) Q := ⟨25, we_L4 hw (fun _ => h) 24 0 (by omega)⟩
theorem sw_L4 {σ : Nat → Nat → Int32} {K : Int32 → Int32 → Prop} (hw : wfS σ) (hK : ∀ w, K (nI (sumN σ 24)) w) : ∀ (r n : Nat), n + r = 24 → wp_X4_signedWeight_L4 (σ 0) (σ 4) (σ 5) K (r + 1) (nI (sumN σ n)) (nI n) := by
  intro r
  induction r with
  | zero =>
    intro n hn
    unfold wp_X4_signedWeight_L4
    have e : n = 24 := by omega
    subst e
    exact ⟨fun _ => hK _, fun h => absurd ((le24 (by decide)).mpr (Nat.le_refl _)) h⟩
  | succ r ih =>
    intro n hn
    have i1 : vp_in (nI n) 24 := vp_in_nI (by omega) (by decide)
    have nx := ih (n + 1) (by omega)
    rw [sumN] at nx
    obtain ⟨ew, _⟩ := hw.w (n := n) (by omega)
    unfold wp_X4_signedWeight_L4
    rw [nI_clamp (n := n) (by omega), ew]
    simp only [nI_1, nI_add]
    refine ⟨fun h => absurd ((le24 (by omega)).mp h) (by omega), fun _ => s_X4_isSigned (by omega) (fun c c2 => ⟨fun h => absurd h (by decide), fun _ => ⟨i1, fun x e => ?_⟩⟩) (fun c => ⟨fun _ => ?_, fun h => absurd rfl h⟩)⟩
    · rw [if_pos (by simp [sgB, c, c2])] at nx; rw [e]; exact nx
    · rw [if_neg (by rcases c with c | c <;> simp [sgB, c])] at nx; exact nx
theorem s_X4_signedWeight {σ : Nat → Nat → Int32} {Q : Int32 → Prop} (hw : wfS σ) (h : Q (nI (sumN σ 24))) : wp_X4_signedWeight (σ 0) (σ 4) (σ 5) Q := ⟨25, sw_L4 hw (fun _ => h) 24 0 (by omega)⟩
/-! stations against a solution -/
def agC (v : Nat) (σ : Nat → Nat → Int32) (s : Nat) : Nat := ct (agn v σ s) 24
theorem ag_L4 {v s : Nat} {σ : Nat → Nat → Int32} {X Y Z A B : Nat → Int32} {K : Int32 → Int32 → Prop} (h1 : 1 ≤ v) (h3 : v ≤ 3) (hg : geo v X Y Z A B) (hs : s < 2 * nPr v) (hK : ∀ w, K (nI (agC v σ s)) w) : ∀ (r n : Nat), n + r = 24 → wp_X6_against_L4 (nI s) (σ 0) (σ 1) (σ 2) (σ 3) (σ 4) X Y Z A B K (r + 1) (nI (ct (agn v σ s) n)) (nI n) := by
  intro r
  induction r with
  | zero =>
    intro n hn
    unfold wp_X6_against_L4
    have e : n = 24 := by omega
    subst e
    exact ⟨fun _ => hK _, fun h => absurd ((le24 (by decide)).mpr (Nat.le_refl _)) h⟩
  | succ r ih =>
    intro n hn
    have i1 : vp_in (nI n) 24 := vp_in_nI (by omega) (by decide)
    have nx := ih (n + 1) (by omega)
    rw [ct] at nx
    unfold wp_X6_against_L4
    rw [nI_clamp (n := n) (by omega)]
    simp only [nI_1, Int32.add_zero]
    refine ⟨fun h => absurd ((le24 (by omega)).mp h) (by omega), fun _ => ⟨i1, fun c x e => ?_, fun c => ⟨i1, fun c2 x e => ?_, fun c2 => ⟨i1, i1, i1, s_X6_signHere h1 h3 hg hs ⟨i1, fun c3 x e => ?_, fun c3 x e => ?_⟩⟩⟩⟩⟩
    · rw [if_neg (by simp [agn, c])] at nx; rw [e]; exact nx
    · rw [if_neg (by simp [agn, c2])] at nx; rw [e]; exact nx
    · rw [if_pos (by simp [agn, c, c2, at8, c3])] at nx; rw [e]; exact nx
    · rw [if_neg (by simp [agn, at8, c3])] at nx; rw [e]; exact nx
theorem s_X6_against {v s : Nat} {σ : Nat → Nat → Int32} {X Y Z A B : Nat → Int32} {Q : Int32 → Prop} (h1 : 1 ≤ v) (h3 : v ≤ 3) (hg : geo v X Y Z A B) (hs : s < 2 * nPr v) (h : Q (nI (agC v σ s))) : wp_X6_against (nI s) (σ 0) (σ 1) (σ 2) (σ 3) (σ 4) X Y Z A B Q := ⟨25, ag_L4 h1 h3 hg hs (fun _ => h) 24 0 (by omega)⟩
theorem ca_L5 {v s : Nat} {σ : Nat → Nat → Int32} {X Y Z A B : Nat → Int32} {K : Int32 → Int32 → Prop} (h1 : 1 ≤ v) (h3 : v ≤ 3) (hg : geo v X Y Z A B) (hs : s < 2 * nPr v) (hK : ∀ w, K (nI (agC v σ s)) w) : ∀ (r n : Nat), n + r = 24 → wp_X4_countAgainst_L5 (nI s) (nPr v) (nPol v) A B X Y Z (σ 0) (σ 1) (σ 2) (σ 3) (σ 4) K (r + 1) (nI (ct (agn v σ s) n)) (nI n) := by
  intro r
  induction r with
  | zero =>
    intro n hn
    unfold wp_X4_countAgainst_L5
    have e : n = 24 := by omega
    subst e
    exact ⟨fun _ => hK _, fun h => absurd ((le24 (by decide)).mpr (Nat.le_refl _)) h⟩
  | succ r ih =>
    intro n hn
    have i1 : vp_in (nI n) 24 := vp_in_nI (by omega) (by decide)
    have nx := ih (n + 1) (by omega)
    rw [ct] at nx
    unfold wp_X4_countAgainst_L5
    rw [nI_clamp (n := n) (by omega)]
    simp only [nI_1]
    refine ⟨fun h => absurd ((le24 (by omega)).mp h) (by omega), fun _ => s_X4_isSigned (by omega) (fun c c2 => ⟨fun h => absurd h (by decide), fun _ => ⟨i1, i1, i1, s_X1_signAlong h1 h3 hg hs ⟨i1, fun c3 => ?_, fun c3 => ?_⟩⟩⟩) (fun c => ⟨fun _ => ?_, fun h => absurd rfl h⟩)⟩
    · rw [if_pos (by simp [agn, c, c2, at8, c3])] at nx; exact nx
    · rw [if_neg (by simp [agn, at8, c3])] at nx; exact nx
    · rw [if_neg (by rcases c with c | c <;> simp [agn, c])] at nx; exact nx
theorem s_X4_countAgainst {v s : Nat} {σ : Nat → Nat → Int32} {X Y Z A B : Nat → Int32} {Q : Int32 → Prop} (h1 : 1 ≤ v) (h3 : v ≤ 3) (hg : geo v X Y Z A B) (hs : s < 2 * nPr v) (h : Q (nI (agC v σ s))) : wp_X4_countAgainst (nI s) (nPr v) (nPol v) A B X Y Z (σ 0) (σ 1) (σ 2) (σ 3) (σ 4) Q := ⟨25, ca_L5 h1 h3 hg hs (fun _ => h) 24 0 (by omega)⟩
/-! kept ones with a sign -/
noncomputable def kwB (v : Nat) (σ : Nat → Nat → Int32) (e : Nat) (x y z s : Int32) (k : Nat) : Bool := sg8 v (ordK v σ e k) x y z == s
noncomputable def kw (v : Nat) (σ : Nat → Nat → Int32) (e : Nat) (x y z s : Int32) : Nat := ct (kwB v σ e x y z s) (nKp v σ e)
section KW
variable {v e : Nat} {σ : Nat → Nat → Int32} {X Y Z A B O : Nat → Int32} {x y z s : Int32} {K : Int32 → Int32 → Prop}
theorem fo_L32 (h1 : 1 ≤ v) (h3 : v ≤ 3) (hw : wfS σ) (hg : geo v X Y Z A B) (hO : ∀ k, k < nKp v σ e → O k = nI (ordK v σ e k)) (hK : ∀ w, K (nI (kw v σ e x y z s)) w) : ∀ (r n : Nat), n + r = nKp v σ e → wp_X6_foretold_L32 x y z s X Y Z A B (nI (nKp v σ e)) O K (r + 1) (nI (ct (kwB v σ e x y z s) n)) (nI n) := by
  have hb := nPr_b h1 h3
  have hkl : nKp v σ e ≤ 2 * nPr v := ct_le _ _
  intro r
  induction r with
  | zero =>
    intro n hn
    unfold wp_X6_foretold_L32
    have e : n = nKp v σ e := by omega
    subst e
    exact ⟨fun _ => hK _, fun h => absurd (nI_le (Nat.le_refl _) (by omega)) h⟩
  | succ r ih =>
    intro n hn
    have i1 : vp_in (nI n) 2320 := vp_in_nI (by omega) (by decide)
    have nx := ih (n + 1) (by omega)
    rw [ct] at nx
    obtain ⟨o1, _, _⟩ := ordK_spec (v := v) (e := e) hw (k := n) (by omega)
    unfold wp_X6_foretold_L32
    rw [nI_clamp (n := n) (by omega), hO n (by omega)]
    simp only [nI_1, Int32.add_zero]
    refine ⟨fun h => absurd h (nI_ge (by omega) (by omega)), fun _ => ⟨i1, s_X6_signHere h1 h3 hg o1 ⟨fun c x e => ?_, fun c x e => ?_⟩⟩⟩
    · rw [if_pos (by simp [kwB, c])] at nx; rw [e]; exact nx
    · rw [if_neg (by simp [kwB, c])] at nx; rw [e]; exact nx
theorem ks_L16 {W : Nat → Int32} (h1 : 1 ≤ v) (h3 : v ≤ 3) (hw : wfS σ) (hAB : ∀ k, k < nPr v → A k = nI (pA v k) ∧ B k = nI (pB v k)) (hW : ∀ k, k < nPol v → W k = ps k x y z) (hO : ∀ k, k < nKp v σ e → O k = nI (ordK v σ e k)) (hK : ∀ w, K (nI (kw v σ e x y z s)) w) : ∀ (r n : Nat), n + r = nKp v σ e → wp_X3_keptWithSign_L16 s (2 * nPr v) (nPr v) (nPol v) O (nI (nKp v σ e)) A B W K (r + 1) (nI (ct (kwB v σ e x y z s) n)) (nI n) := by
  have hb := nPr_b h1 h3
  have hkl : nKp v σ e ≤ 2 * nPr v := ct_le _ _
  intro r
  induction r with
  | zero =>
    intro n hn
    unfold wp_X3_keptWithSign_L16
    have e : n = nKp v σ e := by omega
    subst e
    exact ⟨fun _ => hK _, fun h => absurd (nI_le (Nat.le_refl _) (by omega)) h⟩
  | succ r ih =>
    intro n hn
    have i1 : vp_in (nI n) (2 * nPr v) := vp_in_nI (by omega) (by omega)
    have nx := ih (n + 1) (by omega)
    rw [ct] at nx
    obtain ⟨o1, _, _⟩ := ordK_spec (v := v) (e := e) hw (k := n) (by omega)
    unfold wp_X3_keptWithSign_L16
    rw [nI_clamp (n := n) (by omega), hO n (by omega)]
    simp only [nI_1]
    refine ⟨fun h => absurd h (nI_ge (by omega) (by omega)), fun _ => ⟨i1, s_X1_seenSign h1 h3 hAB hW o1 ⟨fun c => ?_, fun c => ?_⟩⟩⟩
    · rw [if_pos (by simp [kwB, c])] at nx; exact nx
    · rw [if_neg (by simp [kwB, c])] at nx; exact nx
theorem s_X3_keptWithSign {W : Nat → Int32} {Q : Int32 → (Nat → Int32) → Prop} (h1 : 1 ≤ v) (h3 : v ≤ 3) (hw : wfS σ) (hg : geo v X Y Z A B) (hO : ∀ k, k < nKp v σ e → O k = nI (ordK v σ e k)) (h : ∀ W', Q (nI (kw v σ e x y z s)) W') : wp_X3_keptWithSign x y z s (2 * nPr v) (nPr v) (nPr v) (nPol v) O (nI (nKp v σ e)) (nI (nPol v)) A B W X Y Z Q := by
  unfold wp_X3_keptWithSign
  exact s_X1_lookAlong hg.1 (fun W' hW => ⟨nKp v σ e + 1, ks_L16 h1 h3 hw hg.2 hW hO (fun _ => h W') (nKp v σ e) 0 (by omega)⟩)
theorem ma_L9 {n : Nat} {p1 : Int32} (h1 : 1 ≤ v) (h3 : v ≤ 3) (hn : n < 24) (hw : wfS σ) (hg : geo v X Y Z A B) (hO : ∀ k, k < nKp v σ e → O k = nI (ordK v σ e k)) (ht : ¬ σ 4 n = 0) (hK : ∀ w, K (nI (kw v σ e (σ 1 n) (σ 2 n) (σ 3 n) (if p1 = 0 then 0 else -(σ 4 n)))) w) : ∀ (r k : Nat), k + r = nKp v σ e → wp_X6_manyAt_L9 (nI n) p1 (σ 1) (σ 2) (σ 3) (σ 4) X Y Z A B (nI (nKp v σ e)) O K (r + 1) (nI (ct (kwB v σ e (σ 1 n) (σ 2 n) (σ 3 n) (if p1 = 0 then 0 else -(σ 4 n))) k)) (nI k) := by
  have hb := nPr_b h1 h3
  have hkl : nKp v σ e ≤ 2 * nPr v := ct_le _ _
  intro r
  induction r with
  | zero =>
    intro k hk
    unfold wp_X6_manyAt_L9
    have e : k = nKp v σ e := by omega
    subst e
    exact ⟨fun _ => hK _, fun h => absurd (nI_le (Nat.le_refl _) (by omega)) h⟩
  | succ r ih =>
    intro k hk
    have i1 : vp_in (nI k) 2320 := vp_in_nI (by omega) (by decide)
    have i2 : vp_in (nI n) 24 := vp_in_nI hn (by decide)
    have nx := ih (k + 1) (by omega)
    rw [ct] at nx
    obtain ⟨o1, _, _⟩ := ordK_spec (v := v) (e := e) hw (k := k) (by omega)
    unfold wp_X6_manyAt_L9
    rw [nI_clamp (n := k) (by omega), nI_clamp (n := n) (by omega), hO k (by omega)]
    simp only [nI_1, Int32.add_zero]
    refine ⟨fun h => absurd h (nI_ge (by omega) (by omega)), fun _ => ⟨i2, fun c => absurd c ht, fun _ => ⟨i1, i2, i2, i2, s_X6_signHere h1 h3 hg o1 ⟨fun p => ⟨fun c x e => ?_, fun c x e => ?_⟩, fun p => ⟨i2, fun c x e => ?_, fun c x e => ?_⟩⟩⟩⟩⟩
    · rw [if_pos (show kwB v σ _ _ _ _ _ k = true by simp [kwB, p, c])] at nx; rw [e]; exact nx
    · rw [if_neg (show ¬ kwB v σ _ _ _ _ _ k = true by simp [kwB, p, c])] at nx; rw [e]; exact nx
    · rw [if_pos (show kwB v σ _ _ _ _ _ k = true by simp [kwB, p, c])] at nx; rw [e]; exact nx
    · rw [if_neg (show ¬ kwB v σ _ _ _ _ _ k = true by simp [kwB, p, c])] at nx; rw [e]; exact nx
end KW
/-! the first one for which something holds -/
def fnd (p : Nat → Bool) : Nat → Nat → Int32
  | 0, _ => -9
  | r + 1, a => if p a then nI a else fnd p r (a + 1)
theorem fnd_cong {p q : Nat → Bool} : ∀ {r a : Nat}, (∀ k, a ≤ k → k < a + r → p k = q k) → fnd p r a = fnd q r a
  | 0, _, _ => rfl
  | r + 1, a, h => by rw [fnd, fnd, h a (by omega) (by omega), fnd_cong (fun k h1 h2 => h k (by omega) (by omega))]
def polB (a b c : Int32) (k : Nat) : Bool := pX k == a && (pY k == b && pZ k == c)
theorem po_L33 {N : Nat} {p q r x : Int32} {X Y Z : Nat → Int32} {Q : Int32 → Prop} (hN : N ≤ 145) (hT : tabP N X Y Z) (hx : ¬ x = 0) : ∀ (f a : Nat), a + f = N → Q (fnd (polB (p / x) (q / x) (r / x)) f a) → wp_X6_poleOf_L33 p q r (nI N) X Y Z x (fun _ => Q (-9)) (fun y => Q y) (f + 1) (nI a) := by
  intro f
  induction f with
  | zero =>
    intro a ha h
    unfold wp_X6_poleOf_L33
    exact ⟨fun _ => h, fun c => absurd (nI_le (by omega) (by omega)) c⟩
  | succ f ih =>
    intro a ha h
    have i1 : vp_in (nI a) 145 := vp_in_nI (by omega) (by decide)
    obtain ⟨t1, t2, t3⟩ := hT a (by omega)
    unfold wp_X6_poleOf_L33
    rw [nI_clamp (n := a) (by omega), t1, t2, t3, nI_1]
    rw [fnd] at h
    refine ⟨fun c => absurd c (nI_ge (by omega) (by omega)), fun _ => ⟨i1, hx, fun c1 => ⟨i1, hx, fun c2 => ⟨i1, hx, fun c3 => ?_, fun c3 => ?_⟩, fun c2 => ?_⟩, fun c1 => ?_⟩⟩
    · rw [if_pos (by simp [polB, c1, c2, c3])] at h; exact h
    · rw [if_neg (by simp [polB, c3])] at h; exact ih (a + 1) (by omega) h
    · rw [if_neg (by simp [polB, c2])] at h; exact ih (a + 1) (by omega) h
    · rw [if_neg (by simp [polB, c1])] at h; exact ih (a + 1) (by omega) h
theorem pf_L3 {N : Nat} {p q r : Int32} {X Y Z : Nat → Int32} {Q : Int32 → Prop} (hN : N ≤ 145) (hT : tabP N X Y Z) : ∀ (f a : Nat), a + f = N → Q (fnd (polB p q r) f a) → wp_X2_find_L3 p q r (nI N) X Y Z (fun _ => Q (-9)) (fun y => Q y) (f + 1) (nI a) := by
  intro f
  induction f with
  | zero =>
    intro a ha h
    unfold wp_X2_find_L3
    exact ⟨fun _ => h, fun c => absurd (nI_le (by omega) (by omega)) c⟩
  | succ f ih =>
    intro a ha h
    have i1 : vp_in (nI a) 171 := vp_in_nI (by omega) (by decide)
    obtain ⟨t1, t2, t3⟩ := hT a (by omega)
    unfold wp_X2_find_L3
    rw [nI_clamp (n := a) (by omega), t1, t2, t3, nI_1]
    rw [fnd] at h
    refine ⟨fun c => absurd c (nI_ge (by omega) (by omega)), fun _ => ⟨i1, fun c1 => ⟨i1, fun c2 => ⟨i1, fun c3 => ?_, fun c3 => ?_⟩, fun c2 => ?_⟩, fun c1 => ?_⟩⟩
    · rw [if_pos (by simp [polB, c1, c2, c3])] at h; exact h
    · rw [if_neg (by simp [polB, c3])] at h; exact ih (a + 1) (by omega) h
    · rw [if_neg (by simp [polB, c2])] at h; exact ih (a + 1) (by omega) h
    · rw [if_neg (by simp [polB, c1])] at h; exact ih (a + 1) (by omega) h
def prB (v : Nat) (a b : Int32) (k : Nat) : Bool := (nI (pA v k) == a && nI (pB v k) == b) || (nI (pA v k) == b && nI (pB v k) == a)
theorem pr_L20 {v : Nat} {p q : Int32} {A B : Nat → Int32} {Q : Int32 → Prop} (h1 : 1 ≤ v) (h3 : v ≤ 3) (hAB : ∀ k, k < nPr v → A k = nI (pA v k) ∧ B k = nI (pB v k)) : ∀ (f a : Nat), a + f = nPr v → Q (fnd (prB v p q) f a) → wp_X6_pairOf_L20 p q (nI (nPr v)) A B (fun _ => Q (-9)) (fun y => Q y) (f + 1) (nI a) := by
  have hb := nPr_b h1 h3
  intro f
  induction f with
  | zero =>
    intro a ha h
    unfold wp_X6_pairOf_L20
    exact ⟨fun _ => h, fun c => absurd (nI_le (by omega) (by omega)) c⟩
  | succ f ih =>
    intro a ha h
    have i1 : vp_in (nI a) 1160 := vp_in_nI (by omega) (by decide)
    obtain ⟨t1, t2⟩ := hAB a (by omega)
    unfold wp_X6_pairOf_L20
    rw [nI_clamp (n := a) (by omega), t1, t2, nI_1]
    rw [fnd] at h
    have nx : ¬ prB v p q a = true → wp_X6_pairOf_L20 p q (nI (nPr v)) A B (fun _ => Q (-9)) (fun y => Q y) (f + 1) (nI (a + 1)) := fun c => ih (a + 1) (by omega) (by rw [if_neg c] at h; exact h)
    have yes : prB v p q a = true → Q (nI a) := fun c => by rw [if_pos c] at h; exact h
    refine ⟨fun c => absurd c (nI_ge (by omega) (by omega)), fun _ => ⟨i1, fun c1 => ⟨i1, fun c2 => yes (by simp [prB, c1, c2]), fun c2 => ⟨i1, fun c3 => ⟨i1, fun c4 => yes (by simp [prB, c3, c4]), fun c4 => nx (by simp [prB, c2, c4])⟩, fun c3 => nx (by simp [prB, c2, c3])⟩⟩, fun c1 => ⟨i1, fun c3 => ⟨i1, fun c4 => yes (by simp [prB, c3, c4]), fun c4 => nx (by simp [prB, c1, c4])⟩, fun c3 => nx (by simp [prB, c1, c3])⟩⟩⟩
theorem cp_L2 {v : Nat} {p q : Int32} {A B : Nat → Int32} {Q : Int32 → Prop} (h1 : 1 ≤ v) (h3 : v ≤ 3) (hAB : ∀ k, k < nPr v → A k = nI (pA v k) ∧ B k = nI (pB v k)) : ∀ (f a : Nat), a + f = nPr v → Q (fnd (fun k => nI (pA v k) == p && nI (pB v k) == q) f a) → wp_X1_find_L2 p q (nPr v) (nI (nPr v)) A B (fun _ => Q (-9)) (fun y => Q y) (f + 1) (nI a) := by
  have hb := nPr_b h1 h3
  intro f
  induction f with
  | zero =>
    intro a ha h
    unfold wp_X1_find_L2
    exact ⟨fun _ => h, fun c => absurd (nI_le (by omega) (by omega)) c⟩
  | succ f ih =>
    intro a ha h
    have i1 : vp_in (nI a) (nPr v) := vp_in_nI (by omega) (by omega)
    obtain ⟨t1, t2⟩ := hAB a (by omega)
    unfold wp_X1_find_L2
    rw [nI_clamp (n := a) (by omega), t1, t2, nI_1]
    rw [fnd] at h
    refine ⟨fun c => absurd c (nI_ge (by omega) (by omega)), fun _ => ⟨i1, fun c1 => ⟨i1, fun c2 => ?_, fun c2 => ?_⟩, fun c1 => ?_⟩⟩
    · rw [if_pos (by simp [c1, c2])] at h; exact h
    · rw [if_neg (by simp [c2])] at h; exact ih (a + 1) (by omega) h
    · rw [if_neg (by simp [c1])] at h; exact ih (a + 1) (by omega) h
theorem pr_mm {v k : Nat} {p q : Int32} (h1 : 1 ≤ v) (h3 : v ≤ 3) (hk : k < nPr v) : (nI (pA v k) == (if q < p then q else p) && nI (pB v k) == (if p < q then q else p)) = prB v p q k := by
  obtain ⟨g1, g2, _⟩ := pAB_in hk
  have hn := nPol_le v
  have hlt : nI (pA v k) < nI (pB v k) := (nI_ltI (by omega) (by omega)).mpr g1
  unfold prB
  generalize nI (pA v k) = a at *
  generalize nI (pB v k) = b at *
  rw [Bool.eq_iff_iff]
  simp only [Bool.and_eq_true, beq_iff_eq, Bool.or_eq_true]
  grind
