/-! THE LAW: what holds at each of its points; calls on the class, on the model -/
theorem flat1 (C : va_W) : List.flatten [C] = C := by simp
theorem WC_head {cy : Nat → ClassId} {hSP : Nat} {σ : Nat → Nat → Int32} {v e k : Nat} {C : va_W} (hC : WCn cy hSP σ v e k C) : ∃ fs, C[0]? = some (hSP, .inr (5, fs)) := by
  refine WC_elim hC (fun n hn hSP_rankings hSt hPo hRa hRa_misfits hRa_nodals hRa_order hRa_places hRa_counted hRa_begins hPl hBu hBu_isHeld hBu_axes hBu_firstSolutions hPl_lesser hPl_greater hPl_axisOf hPl_axisXs hPl_axisYs hPl_axisZs hPl_axisSquares hPl_poleSigns hPo_xs hPo_ys hPo_zs hPo_countUpTo hSt_there hSt_xs hSt_ys hSt_zs hSt_signs hSt_weights SP_rankings _ _ _ _ _ _ _ _ _ _ _ _ _ _ _ _ _ _ _ _ _ _ _ _ _ _ _ _ _ _ _ _ _ _ hCe _ _ _ _ _ _ _ _ _ _ _ _ => ?_)
  rw [hCe]
  exact ⟨_, rfl⟩
theorem WM_head {cy : Nat → ClassId} {hMo : Nat} {σ : Nat → Nat → Int32} {v e : Nat} {C : va_W} (hC : WM cy hMo σ v e C) : ∃ fs, C[0]? = some (hMo, .inr (6, fs)) := by
  refine WM_elim hC ?_
  intros
  subst_vars
  exact ⟨_, rfl⟩
theorem two0 {C M : va_W} {x : Nat × va_E} (h : C[0]? = some x) : (List.flatten [C, M])[0]? = some x := by
  have : List.flatten [C, M] = C ++ M := by simp
  rw [this, List.getElem?_append_left (List.getElem?_eq_some_iff.mp h).1]
  exact h
theorem two1 {C M : va_W} {x : Nat × va_E} (h : M[0]? = some x) : (List.flatten [C, M])[C.length]? = some x := by
  have : List.flatten [C, M] = C ++ M := by simp
  rw [this, List.getElem?_append_right (Nat.le_refl _), Nat.sub_self]
  exact h
section LD
variable {p : Program} {l : Launch} {e : Env} {R : Room} {s : State} {m : MethodId} {args : Array Value} {below : List Frame} {meth : Method} {c : Code} {H : Heap} {locs : List Loc} {cells slots : Nat} {Q : State → Prop}
variable {pc : Nat} {ls : Array Slot} {rest st0 : List Value} {a : Array Value} {A0 : Nat → Prop} {H0 : Heap} {mc ms : Nat} {D : va_G} {cy : Nat → ClassId} {C M : va_W}
theorem ldC_j {C' : va_W} {H1 : Heap} (hP : va_P D vwCl (List.flatten [C, M]) H) (hD : va_D A0 (List.flatten [C, M])) (hS : va_S A0 H0 H locs) (hA : ∀ q, H0.size ≤ q → A0 q) (hk : ∀ q : Nat, q < H.size → ¬ va_A C H.size q → H1[q]? = H[q]?) (hP1 : va_P D vwCl C' H1) (hD1 : va_D (va_A C H.size) C') : va_P D vwCl (List.flatten [C', M]) H1 ∧ va_D A0 (List.flatten [C', M]) := by
  have hF := fl_free (Lc := [C]) hD hS hA [0] rfl
  rw [flat1] at hF
  obtain ⟨hPj, hDj⟩ := fl_join (Lc := [C]) (Lr := [M]) (L1 := [C']) hP hD [0] [1] rfl rfl rfl (by decide) (by rw [flat1]; exact hk) (by rw [flat1]; exact hF) (by rw [flat1]; exact hP1) (by rw [flat1, flat1]; exact hD1)
  exact ⟨fl_P (Lc := [C', M]) hPj [1, 0] rfl, fl_D (Lc := [C', M]) hDj [1, 0] rfl rfl⟩
theorem ldM_j {M' : va_W} {H1 : Heap} (hP : va_P D vwCl (List.flatten [C, M]) H) (hD : va_D A0 (List.flatten [C, M])) (hS : va_S A0 H0 H locs) (hA : ∀ q, H0.size ≤ q → A0 q) (hk : ∀ q : Nat, q < H.size → ¬ va_A M H.size q → H1[q]? = H[q]?) (hP1 : va_P D vwCl M' H1) (hD1 : va_D (va_A M H.size) M') : va_P D vwCl (List.flatten [C, M']) H1 ∧ va_D A0 (List.flatten [C, M']) := by
  have hF := fl_free (Lc := [M]) hD hS hA [1] rfl
  rw [flat1] at hF
  obtain ⟨hPj, hDj⟩ := fl_join (Lc := [M]) (Lr := [C]) (L1 := [M']) hP hD [1] [0] rfl rfl rfl (by decide) (by rw [flat1]; exact hk) (by rw [flat1]; exact hF) (by rw [flat1]; exact hP1) (by rw [flat1, flat1]; exact hD1)
  exact ⟨hPj, hDj⟩
theorem frC (hD : va_D A0 (List.flatten [C, M])) (hS : va_S A0 H0 H locs) (hA : ∀ q, H0.size ≤ q → A0 q) : ∀ q, va_A C H.size q → A0 q := by
  have hF := fl_free (Lc := [C]) hD hS hA [0] rfl
  rw [flat1] at hF
  exact hF
theorem frM (hD : va_D A0 (List.flatten [C, M])) (hS : va_S A0 H0 H locs) (hA : ∀ q, H0.size ≤ q → A0 q) : ∀ q, va_A M H.size q → A0 q := by
  have hF := fl_free (Lc := [M]) hD hS hA [1] rfl
  rw [flat1] at hF
  exact hF
theorem ldC_i {G : Int32 → va_W → Prop} (hP : va_P D vwCl (List.flatten [C, M]) H) (hD : va_D A0 (List.flatten [C, M])) (hS : va_S A0 H0 H locs) (hA : ∀ q, H0.size ≤ q → A0 q) (hr : va_Run p l e R s m args below meth c H locs cells slots mc ms (F0 m pc ls st0) rest (va_Qi G (fun C' t => kB D cy (va_A C H.size) C' t) (va_A C H.size) a) (va_A C H.size))
    (kk : ∀ (r : Int32) (C' : va_W) (H1 : Heap) (locs1 : List Loc), G r C' → va_P D vwCl (List.flatten [C', M]) H1 → va_D A0 (List.flatten [C', M]) → va_S A0 H0 H1 locs1 → W p l e R s m args below meth c H1 locs1 (cells + mc) (slots + ms) Q (F0 m (pc + 3) ls (.int r :: rest))) : W p l e R s m args below meth c H locs cells slots Q (F0 m pc ls st0) := by
  refine va_calli hr hS (fun q _ h => frC hD hS hA q h) (frC hD hS hA) (fun r u t H1 locs1 ht hvm hp hB hz hk hS1 => ?_)
  obtain ⟨hP1, _, hD1⟩ := hB
  rw [ht] at hP1
  obtain ⟨hPj, hDj⟩ := ldC_j hP hD hS hA hk hP1 hD1
  exact kk r u H1 locs1 hp hPj hDj hS1
theorem ldM_i {G : Int32 → va_W → Prop} (hP : va_P D vwCl (List.flatten [C, M]) H) (hD : va_D A0 (List.flatten [C, M])) (hS : va_S A0 H0 H locs) (hA : ∀ q, H0.size ≤ q → A0 q) (hr : va_Run p l e R s m args below meth c H locs cells slots mc ms (F0 m pc ls st0) rest (va_Qi G (fun C' t => kB D cy (va_A M H.size) C' t) (va_A M H.size) a) (va_A M H.size))
    (kk : ∀ (r : Int32) (M' : va_W) (H1 : Heap) (locs1 : List Loc), G r M' → va_P D vwCl (List.flatten [C, M']) H1 → va_D A0 (List.flatten [C, M']) → va_S A0 H0 H1 locs1 → W p l e R s m args below meth c H1 locs1 (cells + mc) (slots + ms) Q (F0 m (pc + 3) ls (.int r :: rest))) : W p l e R s m args below meth c H locs cells slots Q (F0 m pc ls st0) := by
  refine va_calli hr hS (fun q _ h => frM hD hS hA q h) (frM hD hS hA) (fun r u t H1 locs1 ht hvm hp hB hz hk hS1 => ?_)
  obtain ⟨hP1, _, hD1⟩ := hB
  rw [ht] at hP1
  obtain ⟨hPj, hDj⟩ := ldM_j hP hD hS hA hk hP1 hD1
  exact kk r u H1 locs1 hp hPj hDj hS1
theorem ldC_l {G : Int64 → va_W → Prop} (hP : va_P D vwCl (List.flatten [C, M]) H) (hD : va_D A0 (List.flatten [C, M])) (hS : va_S A0 H0 H locs) (hA : ∀ q, H0.size ≤ q → A0 q) (hr : va_Run p l e R s m args below meth c H locs cells slots mc ms (F0 m pc ls st0) rest (va_Ql G (fun C' t => kB D cy (va_A C H.size) C' t) (va_A C H.size) a) (va_A C H.size))
    (kk : ∀ (r : Int64) (C' : va_W) (H1 : Heap) (locs1 : List Loc), G r C' → va_P D vwCl (List.flatten [C', M]) H1 → va_D A0 (List.flatten [C', M]) → va_S A0 H0 H1 locs1 → W p l e R s m args below meth c H1 locs1 (cells + mc) (slots + ms) Q (F0 m (pc + 3) ls (.long r :: rest))) : W p l e R s m args below meth c H locs cells slots Q (F0 m pc ls st0) := by
  refine va_calll hr hS (fun q _ h => frC hD hS hA q h) (frC hD hS hA) (fun r u t H1 locs1 ht hvm hp hB hz hk hS1 => ?_)
  obtain ⟨hP1, _, hD1⟩ := hB
  rw [ht] at hP1
  obtain ⟨hPj, hDj⟩ := ldC_j hP hD hS hA hk hP1 hD1
  exact kk r u H1 locs1 hp hPj hDj hS1
theorem ldM_l {G : Int64 → va_W → Prop} (hP : va_P D vwCl (List.flatten [C, M]) H) (hD : va_D A0 (List.flatten [C, M])) (hS : va_S A0 H0 H locs) (hA : ∀ q, H0.size ≤ q → A0 q) (hr : va_Run p l e R s m args below meth c H locs cells slots mc ms (F0 m pc ls st0) rest (va_Ql G (fun C' t => kB D cy (va_A M H.size) C' t) (va_A M H.size) a) (va_A M H.size))
    (kk : ∀ (r : Int64) (M' : va_W) (H1 : Heap) (locs1 : List Loc), G r M' → va_P D vwCl (List.flatten [C, M']) H1 → va_D A0 (List.flatten [C, M']) → va_S A0 H0 H1 locs1 → W p l e R s m args below meth c H1 locs1 (cells + mc) (slots + ms) Q (F0 m (pc + 3) ls (.long r :: rest))) : W p l e R s m args below meth c H locs cells slots Q (F0 m pc ls st0) := by
  refine va_calll hr hS (fun q _ h => frM hD hS hA q h) (frM hD hS hA) (fun r u t H1 locs1 ht hvm hp hB hz hk hS1 => ?_)
  obtain ⟨hP1, _, hD1⟩ := hB
  rw [ht] at hP1
  obtain ⟨hPj, hDj⟩ := ldM_j hP hD hS hA hk hP1 hD1
  exact kk r u H1 locs1 hp hPj hDj hS1
theorem lPreC {hSP : Nat} {σ : Nat → Nat → Int32} {v ee k : Nat} (hN : kN s) (hK : va_K D vwCl (tY cy) s) (hP : va_P D vwCl (List.flatten [C, M]) H) (hD : va_D A0 (List.flatten [C, M])) (hC : WCn cy hSP σ v ee k C) (As : List Value) : PreV s H RX5 hSP (kPc (.ref hSP :: As) D cy C H.size) As := by
  obtain ⟨fs, hfs⟩ := WC_head hC
  have h := fPreV (Lc := [C]) (C := RX5) hN hK hP hD [0] rfl rfl 0 (ci := 5) (q := (RX5, TX5, 7)) rfl (two0 hfs) rfl As
  rw [flat1] at h
  exact h
theorem lPreM {hMo : Nat} {σ : Nat → Nat → Int32} {v ee : Nat} (hN : kN s) (hK : va_K D vwCl (tY cy) s) (hP : va_P D vwCl (List.flatten [C, M]) H) (hD : va_D A0 (List.flatten [C, M])) (hC : WM cy hMo σ v ee M) (As : List Value) : PreV s H RX6 hMo (kPc (.ref hMo :: As) D cy M H.size) As := by
  obtain ⟨fs, hfs⟩ := WM_head hC
  have h := fPreV (Lc := [M]) (C := RX6) hN hK hP hD [1] rfl rfl C.length (ci := 6) (q := (RX6, TX6, 32)) rfl (two1 hfs) rfl As
  rw [flat1] at h
  exact h
end LD
theorem lg_self (x : Int64) : lg_cmp x x = 0 := by
  unfold lg_cmp
  simp
/-- the machine at the law's loop -/
def LX (p : Program) (s : State) (m : MethodId) (c : Code) (b L : Nat) (xs : Nat → Int32) (D : va_G) (cy : Nat → ClassId) : Prop := p.tables.exec = Jvm.exec ∧ c.code = cL_law ∧ c.maxLocals = 4 ∧ s.vm.findClass RL = some m.cls ∧ (∀ w ∈ wsL_law, w.before #[Value.ref b] s = true) ∧ va_X b L xs s s.heap ∧ b < s.heap.size ∧ va_K D vwCl (tY cy) s ∧ kN s
/-- the class and the model behind k calls -/
def LI (s : State) (D : va_G) (cy : Nat → ClassId) (hSP hMo : Nat) (σ : Nat → Nat → Int32) (v e k : Nat) (C M : va_W) (H : Heap) (locs : List Loc) : Prop := va_P D vwCl (List.flatten [C, M]) H ∧ va_D (fun q : Nat => s.heap.size ≤ q) (List.flatten [C, M]) ∧ va_S (fun q : Nat => s.heap.size ≤ q) s.heap H locs ∧ WCn cy hSP σ v e k C ∧ WM cy hMo σ v e M
theorem inL {k L j : Nat} (hL : L ≤ 2560) (hi : 5 * k + 5 ≤ L) (hj : j < 5) : vp_in (nI (5 * k) + nI j) L := by
  rw [nI_add]
  exact vp_in_nI (by omega) (by omega)
