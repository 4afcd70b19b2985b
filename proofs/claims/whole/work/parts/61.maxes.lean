/-! LEVEL 2: the model's unlike axes, spread, centre -/
def holdU (L : List T3) (X Y Z : Nat → Int32) : Prop := ∀ (i : Nat) (t : T3), L[i]? = some t → X i = Int32.ofInt t.1 ∧ Y i = Int32.ofInt t.2.1 ∧ Z i = Int32.ofInt t.2.2
theorem fa_L27 {L : List T3} {t : T3} {X Y Z : Nat → Int32} {K : Int32 → Prop} (hL : holdU L X Y Z) (hb : ∀ u ∈ L, b18 u) (ht : b18 t) (hn : L.length ≤ 1160) (k0 : t ∉ L → K (nI L.length)) (k1 : ∀ i, L[i]? = some t → K (nI i)) :
    ∀ (r a : Nat), a + r = L.length → (∀ i, i < a → L[i]? ≠ some t) → wp_X6_findAxes_L27 (Int32.ofInt t.1) (Int32.ofInt t.2.1) (Int32.ofInt t.2.2) (nI L.length) X Y Z K (r + 1) (nI a) := by
  intro r
  induction r with
  | zero =>
    intro a ha hno
    unfold wp_X6_findAxes_L27
    refine ⟨fun _ => ?_, fun h => absurd (nI_le (by omega) (by omega)) h⟩
    rw [show a = L.length by omega]
    refine k0 (fun hm => ?_)
    obtain ⟨i, hi⟩ := List.mem_iff_getElem?.mp hm
    exact hno i (by have := (List.getElem?_eq_some_iff.mp hi).1; omega) hi
  | succ r ih =>
    intro a ha hno
    unfold wp_X6_findAxes_L27
    have hal : a < L.length := by omega
    have hu := List.getElem?_eq_getElem hal
    obtain ⟨x1, x2, x3⟩ := hL a _ hu
    obtain ⟨b1, b2, b3⟩ := hb _ (List.getElem_mem hal)
    obtain ⟨t1, t2, t3⟩ := id ht
    have i1 : vp_in (nI a) 1160 := vp_in_nI (by omega) (by omega)
    rw [nI_clamp (n := a) (by omega), x1, x2, x3, eqI (by omega) (by omega), eqI (by omega) (by omega), eqI (by omega) (by omega), nI_1]
    have nxt : ¬ L[a] = t → wp_X6_findAxes_L27 (Int32.ofInt t.1) (Int32.ofInt t.2.1) (Int32.ofInt t.2.2) (nI L.length) X Y Z K (r + 1) (nI (a + 1)) := by
      intro hne
      refine ih (a + 1) (by omega) (fun i hi e => ?_)
      by_cases c : i = a
      · subst c
        rw [hu] at e
        exact hne (Option.some.inj e)
      · exact hno i (by omega) e
    refine ⟨fun h => absurd h (nI_ge (by omega) (by omega)), fun _ => ⟨i1, fun c1 => ⟨i1, fun c2 => ⟨i1, fun c3 => ?_, fun c3 => nxt (fun e => c3 (by rw [e]))⟩, fun c2 => nxt (fun e => c2 (by rw [e]))⟩, fun c1 => nxt (fun e => c1 (by rw [e]))⟩⟩
    exact k1 a (by rw [hu]; exact congrArg some (Prod.ext c1 (Prod.ext c2 c3)))
theorem holdU_put {L : List T3} {t : T3} {X Y Z : Nat → Int32} {i : Nat} (hL : holdU L X Y Z) (hi : (if t ∈ L then L else L ++ [t])[i]? = some t) (hnd : (if t ∈ L then L else L ++ [t]).Nodup) : holdU (if t ∈ L then L else L ++ [t]) (upd X i (Int32.ofInt t.1)) (upd Y i (Int32.ofInt t.2.1)) (upd Z i (Int32.ofInt t.2.2)) := by
  intro j u hu
  by_cases c : j = i
  · subst c
    rw [hi] at hu
    cases hu
    exact ⟨pk_us, pk_us, pk_us⟩
  · rw [pk_un c, pk_un c, pk_un c]
    by_cases d : t ∈ L
    · rw [if_pos d] at hu
      exact hL j u hu
    · rw [if_neg d] at hu hi hnd
      have hlt : j < L.length := by
        have h1 := (List.getElem?_eq_some_iff.mp hu).1
        rw [List.length_append] at h1
        simp at h1
        rcases Nat.lt_or_ge j L.length with h | h
        · exact h
        · exfalso
          have ej : j = L.length := by omega
          subst ej
          have : (L ++ [t])[L.length]? = some t := by rw [List.getElem?_append_right (Nat.le_refl _)]; simp
          exact c (nd_at hnd this hi)
      rw [List.getElem?_append_left hlt] at hu
      exact hL j u hu
/-- what the model's rows of axes hold behind k kept -/
def tabU (v : Nat) (σ : Nat → Nat → Int32) (e k : Nat) (a : Int32) (X Y Z O : Nat → Int32) : Prop := a = nI (uL v σ e k).length ∧ holdU (uL v σ e k) X Y Z ∧ ∀ j, j < k → ∃ i : Nat, O j = nI i ∧ (uL v σ e k)[i]? = some (tK v σ e j)
theorem fa_L7 {v e : Nat} {σ : Nat → Nat → Int32} {X Y Z A B Or : Nat → Int32} {K : Int32 → Int32 → Int32 → Int32 → Int32 → (Nat → Int32) → (Nat → Int32) → (Nat → Int32) → (Nat → Int32) → Prop} (h1 : 1 ≤ v) (h3 : v ≤ 3) (hw : wfS σ) (hg : geo v X Y Z A B) (hO : ∀ k, k < nKp v σ e → Or k = nI (ordK v σ e k))
    (hK : ∀ w x y z a UX UY UZ O, tabU v σ e (nKp v σ e) a UX UY UZ O → K w x y z a UX UY UZ O) :
    ∀ (r k : Nat) (x y z a : Int32) (UX UY UZ O : Nat → Int32), k + r = nKp v σ e → tabU v σ e k a UX UY UZ O → wp_X6_findAxes_L7 X Y Z A B (nI (nKp v σ e)) Or K (r + 1) (nI k) x y z a UX UY UZ O := by
  have hb := nPr_b h1 h3
  have hkl : nKp v σ e ≤ 2 * nPr v := ct_le _ _
  intro r
  induction r with
  | zero =>
    intro k x y z a UX UY UZ O hk hU
    unfold wp_X6_findAxes_L7
    have e : k = nKp v σ e := by omega
    subst e
    exact ⟨fun _ => hK _ _ _ _ _ _ _ _ _ hU, fun h => absurd (nI_le (Nat.le_refl _) (by omega)) h⟩
  | succ r ih =>
    intro k x y z a UX UY UZ O hk hU
    obtain ⟨u1, u2, u3⟩ := hU
    have hlt : k < nKp v σ e := by omega
    obtain ⟨o1, o2, o3⟩ := ordK_spec hw hlt
    have ok := uL_ok (v := v) (e := e) hw (n := k) (by omega)
    have hlen := uL_len (v := v) (σ := σ) (e := e) k
    have i0 : vp_in (nI k) 2320 := vp_in_nI (by omega) (by decide)
    unfold wp_X6_findAxes_L7
    rw [nI_clamp (n := k) (by omega), hO k hlt, nI_1, u1]
    refine ⟨fun h => absurd h (nI_ge (by omega) (by omega)), fun _ => ⟨i0, s_X6_findAxis h1 h3 hg.1 hg.2 o1 ⟨(uL v σ e k).length + 1, ?_⟩⟩⟩
    have fin : ∀ i : Nat, (uL v σ e (k + 1))[i]? = some (tK v σ e k) → i < 1160 ∧ tabU v σ e (k + 1) (nI (uL v σ e (k + 1)).length) (upd UX i (Int32.ofInt (tK v σ e k).1)) (upd UY i (Int32.ofInt (tK v σ e k).2.1)) (upd UZ i (Int32.ofInt (tK v σ e k).2.2)) (upd O k (nI i)) := by
      intro i hi
      have hl2 := uL_len (v := v) (σ := σ) (e := e) (k + 1)
      have hi2 := (List.getElem?_eq_some_iff.mp hi).1
      refine ⟨by omega, rfl, holdU_put u2 hi (uL_nd (k + 1)), fun j hj => ?_⟩
      by_cases c : j = k
      · subst c; exact ⟨i, pk_us, hi⟩
      · obtain ⟨i', e1, e2⟩ := u3 j (by omega)
        exact ⟨i', by rw [pk_un c]; exact e1, uL_pre e2 1⟩
    refine fa_L27 (t := tK v σ e k) u2 (fun u hu => (ok u hu).1) (tK_ok hw hlt).1 (by omega) ?_ ?_ (uL v σ e k).length 0 (by omega) (fun i hi => absurd hi (by omega))
    · intro hm
      have e1 : uL v σ e (k + 1) = uL v σ e k ++ [tK v σ e k] := by rw [uL, if_neg hm]
      obtain ⟨f1, f2⟩ := fin (uL v σ e k).length (by rw [e1, List.getElem?_append_right (Nat.le_refl _)]; simp)
      have i1 : vp_in (nI (uL v σ e k).length) 1160 := vp_in_nI f1 (by decide)
      rw [nI_clamp (n := (uL v σ e k).length) (by omega)]
      refine ⟨i1, i1, i1, fun _ x5 e5 => ⟨i0, ?_⟩, fun h => absurd rfl h⟩
      rw [e5, nI_1]
      have e2 : (uL v σ e k).length + 1 = (uL v σ e (k + 1)).length := by rw [e1, List.length_append]; rfl
      rw [e2]
      exact ih (k + 1) _ _ _ _ _ _ _ _ (by omega) f2
    · intro i hi
      have hm : tK v σ e k ∈ uL v σ e k := List.mem_of_getElem? hi
      have e1 : uL v σ e (k + 1) = uL v σ e k := by rw [uL, if_pos hm]
      obtain ⟨f1, f2⟩ := fin i (by rw [e1]; exact hi)
      have hil := (List.getElem?_eq_some_iff.mp hi).1
      have i1 : vp_in (nI i) 1160 := vp_in_nI f1 (by decide)
      rw [nI_clamp (n := i) (by omega)]
      refine ⟨i1, i1, i1, fun h => absurd ((nI_eq (by omega) (by omega)).mp h) (by omega), fun _ x4 e4 => ⟨i0, ?_⟩⟩
      rw [e4, Int32.add_zero]
      exact ih (k + 1) _ _ _ _ _ _ _ _ (by omega) ⟨by rw [e1], f2.2.1, f2.2.2⟩
theorem s_X6_square {L : List T3} {X Y Z : Nat → Int32} {i : Nat} {t : T3} {Q : Int32 → Prop} (hL : holdU L X Y Z) (hi : L[i]? = some t) (hn : L.length ≤ 1160) (h : Q (Int32.ofInt (dotI t t))) : wp_X6_square (nI i) X Y Z Q := by
  have hil := (List.getElem?_eq_some_iff.mp hi).1
  obtain ⟨x1, x2, x3⟩ := hL i t hi
  have i1 : vp_in (nI i) 1160 := vp_in_nI (by omega) (by decide)
  unfold wp_X6_square
  rw [nI_clamp (n := i) (by omega), x1, x2, x3, ← Int32.ofInt_mul, ← Int32.ofInt_mul, ← Int32.ofInt_mul, ← Int32.ofInt_add, ← Int32.ofInt_add]
  exact ⟨i1, i1, i1, i1, i1, i1, h⟩
theorem pkL_us {f : Nat → Int64} {k : Nat} {x : Int64} : vp_updL f k x k = x := pk_uLs
theorem fa_L171 {L : List T3} {X Y Z : Nat → Int32} {a : Nat} {t : T3} {U0 D0 : Nat → Int64} {K : Int32 → (Nat → Int64) → (Nat → Int64) → Prop} (hL : holdU L X Y Z) (ok : ∀ u ∈ L, b18 u ∧ nz3 u) (ha : L[a]? = some t) (hn : L.length ≤ 1160)
    (hK : ∀ w U D, U a = Int64.ofInt (far L t).1 → D a = Int64.ofInt (far L t).2 → (∀ j, j ≠ a → U j = U0 j) → (∀ j, j ≠ a → D j = D0 j) → K w U D) :
    ∀ (r b : Nat) (f : Int × Int) (U D : Nat → Int64), b + r = L.length → okf f → (L.drop b).foldl (fstp t) f = far L t → U a = Int64.ofInt f.1 → D a = Int64.ofInt f.2 → (∀ j, j ≠ a → U j = U0 j) → (∀ j, j ≠ a → D j = D0 j) → wp_X6_findAxes_L171 (nI L.length) X Y Z (nI a) K (r + 1) (nI b) U D := by
  have hal := (List.getElem?_eq_some_iff.mp ha).1
  obtain ⟨x1, x2, x3⟩ := hL a t ha
  obtain ⟨bt, nt⟩ := ok t (List.mem_of_getElem? ha)
  intro r
  induction r with
  | zero =>
    intro b f U D hb hf hd hU hD oU oD
    unfold wp_X6_findAxes_L171
    refine ⟨fun _ => ?_, fun h => absurd (nI_le (by omega) (by omega)) h⟩
    rw [List.drop_of_length_le (by omega)] at hd
    have e : f = far L t := hd
    rw [e] at hU hD
    exact hK _ _ _ hU hD oU oD
  | succ r ih =>
    intro b f U D hb hf hd hU hD oU oD
    have hbl : b < L.length := by omega
    have hu := List.getElem?_eq_getElem hbl
    obtain ⟨y1, y2, y3⟩ := hL b _ hu
    obtain ⟨bu, nu⟩ := ok _ (List.getElem_mem hbl)
    rw [List.drop_eq_getElem_cons hbl, List.foldl_cons] at hd
    have i1 : vp_in (nI a) 1160 := vp_in_nI (by omega) (by decide)
    have i2 : vp_in (nI b) 1160 := vp_in_nI (by omega) (by decide)
    obtain ⟨d1, d2⟩ := dnI_b bt bu nt nu
    obtain ⟨p1, p2⟩ := upI_b t L[b]
    obtain ⟨g1, g2, g3, g4, g5⟩ := id hf
    have hdt := dotI_b bt bu
    have s1 := dotI_b bt bt
    have s2 := dotI_b bu bu
    unfold wp_X6_findAxes_L171
    rw [nI_clamp (n := a) (by omega), nI_clamp (n := b) (by omega), x1, x2, x3, y1, y2, y3, nI_1, hU, hD, ← Int32.ofInt_mul, ← Int32.ofInt_mul, ← Int32.ofInt_mul, ← Int32.ofInt_add, ← Int32.ofInt_add]
    refine ⟨fun h => absurd h (nI_ge (by omega) (by omega)), fun _ => ⟨i1, i2, i1, i2, i1, i2, fun w1 e1 => s_X6_square hL ha hn (s_X6_square hL hu hn (fun w4 e4 w5 e5 => ?_))⟩⟩
    have e1' : w1 = Int64.ofInt (dotI t L[b]) := by rw [e1]; exact w64 (by unfold dotI at hdt; omega)
    have e4' : w4 = Int64.ofInt (dnI t L[b]) := by rw [e4, w64 (by omega), w64 (by omega), ← Int64.ofInt_mul]; rfl
    have e5' : w5 = Int64.ofInt (upI t L[b]) := by rw [e5, e4', e1', ← Int64.ofInt_mul, ← Int64.ofInt_sub]; rfl
    rw [e4', e5', ← Int64.ofInt_mul, ← Int64.ofInt_mul, lg_le0, le64 (prod_b (by omega) (by omega)) (prod_b (by omega) (by omega))]
    have hf' := okf_step hf bt bu nt nu
    refine ⟨i1, i1, fun c => ⟨i1, fun u6 e6 => ⟨i1, i1, fun u7 e7 => ⟨i1, ?_⟩⟩⟩, fun c => ⟨i1, i1, ?_⟩⟩
    · have ef : fstp t f L[b] = f := by unfold fstp; rw [if_neg (by omega)]
      rw [ef] at hd
      refine ih (b + 1) f _ _ (by omega) hf hd ?_ ?_ (fun j hj => by rw [pk_uLn hj]; exact oU j hj) (fun j hj => by rw [pk_uLn hj]; exact oD j hj)
      · rw [pk_uLs, e6]
      · rw [pk_uLs, e7]
    · have ef : fstp t f L[b] = (upI t L[b], dnI t L[b]) := by unfold fstp; rw [if_pos (by omega)]
      rw [ef] at hd hf'
      exact ih (b + 1) _ _ _ (by omega) hf' hd pk_uLs pk_uLs (fun j hj => by rw [pk_uLn hj]; exact oU j hj) (fun j hj => by rw [pk_uLn hj]; exact oD j hj)

def fars (v : Nat) (σ : Nat → Nat → Int32) (e n : Nat) (U D : Nat → Int64) : Prop := ∀ (i : Nat) (t : T3), i < n → (uA v σ e)[i]? = some t → U i = Int64.ofInt (fF v σ e t).1 ∧ D i = Int64.ofInt (fF v σ e t).2
theorem fa_L147 {v e : Nat} {σ : Nat → Nat → Int32} {X Y Z : Nat → Int32} {K : Int32 → (Nat → Int64) → (Nat → Int64) → Prop} (hw : wfS σ) (hL : holdU (uA v σ e) X Y Z) (hn : (uA v σ e).length ≤ 1160)
    (hK : ∀ w U D, fars v σ e (uA v σ e).length U D → K w U D) :
    ∀ (r a : Nat) (U D : Nat → Int64), a + r = (uA v σ e).length → fars v σ e a U D → wp_X6_findAxes_L147 (nI (uA v σ e).length) X Y Z K (r + 1) (nI a) U D := by
  have ok : ∀ u ∈ uA v σ e, b18 u ∧ nz3 u := uL_ok hw (Nat.le_refl _)
  intro r
  induction r with
  | zero =>
    intro a U D ha hf
    unfold wp_X6_findAxes_L147
    have e1 : a = (uA v σ e).length := by omega
    subst e1
    exact ⟨fun _ => hK _ _ _ hf, fun h => absurd (nI_le (by omega) (by omega)) h⟩
  | succ r ih =>
    intro a U D ha hf
    have hal : a < (uA v σ e).length := by omega
    have i1 : vp_in (nI a) 1160 := vp_in_nI (by omega) (by decide)
    unfold wp_X6_findAxes_L147
    rw [nI_clamp (n := a) (by omega), nI_1]
    refine ⟨fun h => absurd h (nI_ge (by omega) (by omega)), fun _ => ⟨i1, i1, (uA v σ e).length + 1, fa_L171 (t := (uA v σ e)[a]) (U0 := U) (D0 := D) hL ok (List.getElem?_eq_getElem hal) hn ?_ (uA v σ e).length 0 (0, 1) _ _ (by omega) okf_0 rfl pk_uLs pk_uLs (fun j hj => pk_uLn hj) (fun j hj => pk_uLn hj)⟩⟩
    intro w U' D' hU hD oU oD
    refine ih (a + 1) U' D' (by omega) (fun i t hi ht => ?_)
    by_cases c : i = a
    · subst c
      rw [List.getElem?_eq_getElem hal] at ht
      cases ht
      exact ⟨hU, hD⟩
    · rw [oU i c, oD i c]
      exact hf i t (by omega) ht
/-- what the model knows behind knows -/
def KN (v : Nat) (σ : Nat → Nat → Int32) (e : Nat) (ls kp : Int32) (M N O P : Nat → Int32) (ax : Int32) (UX UY UZ : Nat → Int32) (U D : Nat → Int64) (AO : Nat → Int32) : Prop := ls = nI (lst v σ) ∧ kp = nI (nKp v σ e) ∧ tabM v σ (2 * nPr v) M N ∧ tabO v σ e O P ∧ tabU v σ e (nKp v σ e) ax UX UY UZ AO ∧ fars v σ e (uA v σ e).length U D
theorem uA_len {v e : Nat} {σ : Nat → Nat → Int32} (h1 : 1 ≤ v) (h3 : v ≤ 3) : (uA v σ e).length ≤ 1160 := by
  have hb := nPr_b h1 h3
  have hkl : nKp v σ e ≤ 2 * nPr v := ct_le _ _
  have := uL_len (v := v) (σ := σ) (e := e) (nKp v σ e)
  unfold uA
  omega
theorem s_X6_findAxes {v e : Nat} {σ : Nat → Nat → Int32} {X Y Z A B O AO UX UY UZ : Nat → Int32} {U D : Nat → Int64} {x y z a : Int32} {Q : Int32 → Int32 → Int32 → Int32 → (Nat → Int32) → (Nat → Int32) → (Nat → Int32) → (Nat → Int64) → (Nat → Int64) → (Nat → Int32) → Prop} (h1 : 1 ≤ v) (h3 : v ≤ 3) (hw : wfS σ) (hg : geo v X Y Z A B) (hO : ∀ k, k < nKp v σ e → O k = nI (ordK v σ e k))
    (h : ∀ x y z a UX UY UZ U D AO, tabU v σ e (nKp v σ e) a UX UY UZ AO → fars v σ e (uA v σ e).length U D → Q x y z a UX UY UZ U D AO) : wp_X6_findAxes X Y Z A B (nI (nKp v σ e)) O x y z a UX UY UZ U D AO Q := by
  unfold wp_X6_findAxes
  refine ⟨nKp v σ e + 1, fa_L7 h1 h3 hw hg hO ?_ (nKp v σ e) 0 _ _ _ _ _ _ _ _ (by omega) ⟨rfl, fun i t ht => by simp [uL] at ht, fun j hj => absurd hj (by omega)⟩⟩
  intro w x y z a UX UY UZ O' hU
  refine ⟨(uA v σ e).length + 1, ?_⟩
  rw [hU.1]
  exact fa_L147 hw hU.2.1 (uA_len h1 h3) (fun w U D hf => h _ _ _ _ _ _ _ _ _ _ ⟨rfl, hU.2⟩ hf) (uA v σ e).length 0 _ _ (by omega) (fun i t hi => absurd hi (by omega))
theorem s_X6_knows {v e : Nat} {σ : Nat → Nat → Int32} {X Y Z A B M N O P AO UX UY UZ : Nat → Int32} {U D : Nat → Int64} {kn ls kp x y z a : Int32} {Q : Int32 → Int32 → Int32 → (Nat → Int32) → (Nat → Int32) → (Nat → Int32) → (Nat → Int32) → Int32 → Int32 → Int32 → Int32 → (Nat → Int32) → (Nat → Int32) → (Nat → Int32) → (Nat → Int64) → (Nat → Int64) → (Nat → Int32) → Prop} (h1 : 1 ≤ v) (h3 : v ≤ 3) (he : e ≤ 9) (hw : wfS σ) (hg : geo v X Y Z A B)
    (hk : ¬ kn = 0 → KN v σ e ls kp M N O P a UX UY UZ U D AO)
    (h : ∀ kn ls kp M N O P x y z a UX UY UZ U D AO, KN v σ e ls kp M N O P a UX UY UZ U D AO → Q kn ls kp M N O P x y z a UX UY UZ U D AO) : wp_X6_knows (σ 0) (σ 1) (σ 2) (σ 3) (σ 4) (σ 5) (nI e) X Y Z (nI (nPr v)) A B kn ls kp M N O P x y z a UX UY UZ U D AO Q := by
  have hb := nPr_b h1 h3
  unfold wp_X6_knows
  refine ⟨fun c => s_X6_measures h1 h3 he hw hg (fun M' N' hT => ⟨2 * nPr v + 1, kn_L19 (by omega) (fun w P' hP => ⟨e + 1 + 1, ?_⟩) (2 * nPr v) 0 _ (by omega) (fun t ht => absurd ht (by omega))⟩), fun c => h _ _ _ _ _ _ _ _ _ _ _ _ _ _ _ _ _ (hk c)⟩
  refine kn_L50 h1 h3 he hw hT (fun a c O P hO => ?_) (e + 1) (lst v σ) 0 _ _ (by omega) (Nat.le_refl _) (ordInv_0 hP)
  exact s_X6_findAxes h1 h3 hw hg hO.1 (fun x y z a UX UY UZ U D AO hU hf => h _ _ _ _ _ _ _ _ _ _ _ _ _ _ _ _ _ ⟨rfl, rfl, hT, hO, hU, hf⟩)
