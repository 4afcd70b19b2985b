/-! worlds as lists of regions: cut, joined and reordered by regions -/
theorem fl_mem {ws : va_W} {q : Nat × va_E} : q ∈ ws ↔ ∃ k : Nat, ws[k]? = some q := List.mem_iff_getElem?
theorem fl_P_iff {D : va_G} {cl : List vw_C} {ws : va_W} {H : Heap} : va_P D cl ws H ↔ ∀ q ∈ ws, va_at D cl q H :=
  ⟨fun h q hq => by obtain ⟨k, hk⟩ := fl_mem.mp hq; exact h k q hk, fun h k q hk => h q (List.mem_of_getElem? hk)⟩
theorem fl_D_iff {A : Nat → Prop} {ws : va_W} : va_D A ws ↔ ws.Pairwise (fun p q => p.1 ≠ q.1) ∧ ∀ q ∈ ws, A q.1 := by
  constructor
  · intro h
    refine ⟨List.pairwise_iff_getElem.mpr (fun i j hi hj hij e => ?_), fun q hq => ?_⟩
    · have := h.1 i j _ _ (List.getElem?_eq_getElem hi) (List.getElem?_eq_getElem hj) e
      omega
    · obtain ⟨k, hk⟩ := fl_mem.mp hq
      exact h.2 k q hk
  · intro h
    refine ⟨fun i j p q hi hj e => ?_, fun k q hk => h.2 q (List.mem_of_getElem? hk)⟩
    obtain ⟨li, ei⟩ := List.getElem?_eq_some_iff.mp hi
    obtain ⟨lj, ej⟩ := List.getElem?_eq_some_iff.mp hj
    rcases Nat.lt_trichotomy i j with hij | hij | hij
    · exact absurd (by rw [ei, ej]; exact e) (List.pairwise_iff_getElem.mp h.1 i j li lj hij)
    · exact hij
    · exact absurd (by rw [ei, ej]; exact e.symm) (List.pairwise_iff_getElem.mp h.1 j i lj li hij)
theorem fl_at {Ls Lc : List va_W} {is : List Nat} (hC : is.map (fun i => Ls[i]?) = Lc.map some) {k : Nat} {L : va_W} (hk : Lc[k]? = some L) : ∃ i : Nat, is[k]? = some i ∧ Ls[i]? = some L := by
  have h1 : (is.map (fun i => Ls[i]?))[k]? = some (some L) := by rw [hC, List.getElem?_map, hk]; rfl
  rw [List.getElem?_map] at h1
  cases hi : is[k]? with
  | none => rw [hi] at h1; cases h1
  | some i => rw [hi] at h1; exact ⟨i, rfl, Option.some.inj h1⟩
theorem fl_sub {Ls Lc : List va_W} {is : List Nat} (hC : is.map (fun i => Ls[i]?) = Lc.map some) {q : Nat × va_E} (hq : q ∈ Lc.flatten) : ∃ (k i : Nat) (L : va_W), is[k]? = some i ∧ Lc[k]? = some L ∧ Ls[i]? = some L ∧ q ∈ L := by
  obtain ⟨L, hL, hqL⟩ := List.mem_flatten.mp hq
  obtain ⟨k, hk⟩ := List.mem_iff_getElem?.mp hL
  obtain ⟨i, h1, h2⟩ := fl_at hC hk
  exact ⟨k, i, L, h1, hk, h2, hqL⟩
theorem fl_P {D : va_G} {cl : List vw_C} {Ls Lc : List va_W} {H : Heap} (hP : va_P D cl Ls.flatten H) (is : List Nat) (hC : is.map (fun i => Ls[i]?) = Lc.map some) : va_P D cl Lc.flatten H :=
  fl_P_iff.mpr (fun q hq => by
    obtain ⟨k, i, L, _, _, h2, h3⟩ := fl_sub hC hq
    exact fl_P_iff.mp hP q (List.mem_flatten.mpr ⟨L, List.mem_of_getElem? h2, h3⟩))
/-- two cells of two regions at unlike places are apart -/
theorem fl_apart {A : Nat → Prop} {Ls : List va_W} (hD : va_D A Ls.flatten) {i j : Nat} {L M : va_W} (hi : Ls[i]? = some L) (hj : Ls[j]? = some M) (hij : i ≠ j) {p q : Nat × va_E} (hp : p ∈ L) (hq : q ∈ M) : p.1 ≠ q.1 := by
  have h := (List.pairwise_flatten.mp (fl_D_iff.mp hD).1).2
  obtain ⟨li, ei⟩ := List.getElem?_eq_some_iff.mp hi
  obtain ⟨lj, ej⟩ := List.getElem?_eq_some_iff.mp hj
  rcases Nat.lt_or_gt_of_ne hij with h1 | h1
  · exact List.pairwise_iff_getElem.mp h i j li lj h1 p (by rw [ei]; exact hp) q (by rw [ej]; exact hq)
  · exact fun e => List.pairwise_iff_getElem.mp h j i lj li h1 q (by rw [ej]; exact hq) p (by rw [ei]; exact hp) e.symm
theorem fl_D {A : Nat → Prop} {Ls Lc : List va_W} (hD : va_D A Ls.flatten) (is : List Nat) (hn : va_nd is = true) (hC : is.map (fun i => Ls[i]?) = Lc.map some) : va_D A Lc.flatten := by
  refine fl_D_iff.mpr ⟨List.pairwise_flatten.mpr ⟨fun L hL => ?_, List.pairwise_iff_getElem.mpr (fun a b ha hb hab p hp q hq => ?_)⟩, fun q hq => ?_⟩
  · obtain ⟨k, hk⟩ := List.mem_iff_getElem?.mp hL
    obtain ⟨i, _, h2⟩ := fl_at hC hk
    exact (List.pairwise_flatten.mp (fl_D_iff.mp hD).1).1 L (List.mem_of_getElem? h2)
  · obtain ⟨i, h1, h2⟩ := fl_at hC (List.getElem?_eq_getElem ha)
    obtain ⟨j, h3, h4⟩ := fl_at hC (List.getElem?_eq_getElem hb)
    refine fl_apart hD h2 h4 (fun e => ?_) hp hq
    subst e
    have := va_nd_inj is hn a b i h1 h3
    omega
  · obtain ⟨k, i, L, _, _, h2, h3⟩ := fl_sub hC hq
    exact (fl_D_iff.mp hD).2 q (List.mem_flatten.mpr ⟨L, List.mem_of_getElem? h2, h3⟩)
theorem fl_free {A0 : Nat → Prop} {Ls Lc : List va_W} {H0 H : Heap} {locs : List Loc} (hD : va_D A0 Ls.flatten) (hS : va_S A0 H0 H locs) (hA : ∀ q, H0.size ≤ q → A0 q) (isC : List Nat) (hC : isC.map (fun i => Ls[i]?) = Lc.map some) : ∀ q, va_A Lc.flatten H.size q → A0 q := by
  intro q h
  rcases h with ⟨k, e, h⟩ | h
  · obtain ⟨_, i, L, _, _, h2, h3⟩ := fl_sub hC (List.mem_of_getElem? h)
    exact (fl_D_iff.mp hD).2 (q, e) (List.mem_flatten.mpr ⟨L, List.mem_of_getElem? h2, h3⟩)
  · exact hA q (Nat.le_trans hS.1 h)
theorem fl_join {A0 : Nat → Prop} {D : va_G} {cl : List vw_C} {Ls Lc Lr L1 : List va_W} {H H1 : Heap} (hP : va_P D cl Ls.flatten H) (hD : va_D A0 Ls.flatten) (isC isR : List Nat) (hC : isC.map (fun i => Ls[i]?) = Lc.map some) (hR : isR.map (fun i => Ls[i]?) = Lr.map some) (hn : va_nd isR = true) (hdis : ∀ i ∈ isR, i ∉ isC)
    (hk : ∀ q : Nat, q < H.size → ¬ va_A Lc.flatten H.size q → H1[q]? = H[q]?) (hF : ∀ q, va_A Lc.flatten H.size q → A0 q) (hP1 : va_P D cl L1.flatten H1) (hD1 : va_D (va_A Lc.flatten H.size) L1.flatten) : va_P D cl (Lr ++ L1).flatten H1 ∧ va_D A0 (Lr ++ L1).flatten := by
  have apart : ∀ q ∈ Lr.flatten, va_at D cl q H ∧ q.1 < H.size ∧ ¬ va_A Lc.flatten H.size q.1 := by
    intro q hq
    obtain ⟨k, i, L, h1, h2, h3, h4⟩ := fl_sub hR hq
    have h5 := fl_P_iff.mp hP q (List.mem_flatten.mpr ⟨L, List.mem_of_getElem? h3, h4⟩)
    refine ⟨h5, h5.lt, fun h => ?_⟩
    rcases h with ⟨k2, e, h⟩ | h
    · obtain ⟨k3, j, M, h6, h7, h8, h9⟩ := fl_sub hC (List.mem_of_getElem? h)
      refine fl_apart hD h3 h8 (fun eij => ?_) h4 h9 rfl
      subst eij
      exact hdis i (List.mem_of_getElem? h1) (List.mem_of_getElem? h6)
    · have := h5.lt
      omega
  rw [List.flatten_append]
  refine ⟨fl_P_iff.mpr (fun q hq => ?_), fl_D_iff.mpr ⟨List.pairwise_append.mpr ⟨(fl_D_iff.mp (fl_D hD isR hn hR)).1, (fl_D_iff.mp hD1).1, fun p hp q hq e => ?_⟩, fun q hq => ?_⟩⟩
  · rcases List.mem_append.mp hq with h | h
    · obtain ⟨g1, g2, g3⟩ := apart q h
      exact g1.kept (hk q.1 g2 g3)
    · exact fl_P_iff.mp hP1 q h
  · exact (apart p hp).2.2 (by rw [e]; exact (fl_D_iff.mp hD1).2 q hq)
  · rcases List.mem_append.mp hq with h | h
    · exact (fl_D_iff.mp (fl_D hD isR hn hR)).2 q h
    · exact hF q.1 ((fl_D_iff.mp hD1).2 q h)
theorem fPre {s : State} {H : Heap} {D : va_G} {cy : Nat → ClassId} {A : Nat → Prop} {Ls Lc : List va_W} (hN : kN s) (hK : va_K D vwCl (tY cy) s) (hP : va_P D vwCl Ls.flatten H) (hD : va_D A Ls.flatten) (is : List Nat) (hC : is.map (fun i => Ls[i]?) = Lc.map some) (hn : va_nd is = true) (As : List Value) : PreS s H (kPc As D cy Lc.flatten H.size) As :=
  ⟨kPc_blind, fun U hU hW => ⟨rfl, by rw [hU], hN.warm hW, by rw [hU]; exact fl_P hP is hC, va_K.moved hW.alike hK, (fl_D hD is hn hC).weaken (fun _ _ _ _ => trivial)⟩⟩
theorem fPreV {s : State} {H : Heap} {D : va_G} {cy : Nat → ClassId} {A : Nat → Prop} {Ls Lc : List va_W} {C : String} {b : Addr} (hN : kN s) (hK : va_K D vwCl (tY cy) s) (hP : va_P D vwCl Ls.flatten H) (hD : va_D A Ls.flatten) (is : List Nat) (hC : is.map (fun i => Ls[i]?) = Lc.map some) (hn : va_nd is = true) (q0 : Nat) {ci : Nat} {fs : List Value} {q : vw_C} (hc : vwCl[ci]? = some q) (he : Ls.flatten[q0]? = some (b, .inr (ci, fs))) (hq : q.1 = C) (As : List Value) : PreV s H C b (kPc (.ref b :: As) D cy Lc.flatten H.size) As :=
  ⟨(fPre hN hK hP hD is hC hn (.ref b :: As)).1, by rw [← hq]; exact va_recv hK hP hc he, (fPre hN hK hP hD is hC hn (.ref b :: As)).2⟩
section FC
variable {p : Program} {l : Launch} {e : Env} {R : Room} {s : State} {m : MethodId} {args : Array Value} {below : List Frame} {meth : Method} {c : Code} {H : Heap} {locs : List Loc} {cells slots : Nat} {Q : State → Prop}
variable {pc : Nat} {ls : Array Slot} {rest st0 : List Value} {a : Array Value} {A0 : Nat → Prop} {H0 : Heap} {mc ms : Nat}
theorem fd_i {S : Type} {D : va_G} {cy : Nat → ClassId} {post : Int32 → S → Prop} {Ls Lc : List va_W} {w1 : S → List va_W} (isC isR : List Nat) (hP : va_P D vwCl Ls.flatten H) (hD : va_D A0 Ls.flatten) (hS : va_S A0 H0 H locs) (hA : ∀ q, H0.size ≤ q → A0 q) (hC : isC.map (fun i => Ls[i]?) = Lc.map some) (hR : isR.map (fun i => Ls[i]?) = (isR.filterMap (fun i => Ls[i]?)).map some) (hn : va_nd isR = true) (hdis : ∀ i ∈ isR, i ∉ isC)
    (hr : va_Run p l e R s m args below meth c H locs cells slots mc ms (F0 m pc ls st0) rest (va_Qi post (fun u t => kB D cy (va_A Lc.flatten H.size) (w1 u).flatten t) (va_A Lc.flatten H.size) a) (va_A Lc.flatten H.size))
    (kk : ∀ (r : Int32) (u : S) (H1 : Heap) (locs1 : List Loc), post r u → va_P D vwCl (isR.filterMap (fun i => Ls[i]?) ++ w1 u).flatten H1 → va_D A0 (isR.filterMap (fun i => Ls[i]?) ++ w1 u).flatten → va_S A0 H0 H1 locs1 → W p l e R s m args below meth c H1 locs1 (cells + mc) (slots + ms) Q (F0 m (pc + 3) ls (.int r :: rest))) : W p l e R s m args below meth c H locs cells slots Q (F0 m pc ls st0) := by
  refine va_calli hr hS (fun q _ h => fl_free hD hS hA isC hC q h) (fl_free hD hS hA isC hC) (fun r u t H1 locs1 ht hvm hp hB hz hk hS1 => ?_)
  obtain ⟨hP1, _, hD1⟩ := hB
  rw [ht] at hP1
  obtain ⟨hPj, hDj⟩ := fl_join hP hD isC isR hC hR hn hdis hk (fl_free hD hS hA isC hC) hP1 hD1
  exact kk r u H1 locs1 hp hPj hDj hS1
theorem fd_l {S : Type} {D : va_G} {cy : Nat → ClassId} {post : Int64 → S → Prop} {Ls Lc : List va_W} {w1 : S → List va_W} (isC isR : List Nat) (hP : va_P D vwCl Ls.flatten H) (hD : va_D A0 Ls.flatten) (hS : va_S A0 H0 H locs) (hA : ∀ q, H0.size ≤ q → A0 q) (hC : isC.map (fun i => Ls[i]?) = Lc.map some) (hR : isR.map (fun i => Ls[i]?) = (isR.filterMap (fun i => Ls[i]?)).map some) (hn : va_nd isR = true) (hdis : ∀ i ∈ isR, i ∉ isC)
    (hr : va_Run p l e R s m args below meth c H locs cells slots mc ms (F0 m pc ls st0) rest (va_Ql post (fun u t => kB D cy (va_A Lc.flatten H.size) (w1 u).flatten t) (va_A Lc.flatten H.size) a) (va_A Lc.flatten H.size))
    (kk : ∀ (r : Int64) (u : S) (H1 : Heap) (locs1 : List Loc), post r u → va_P D vwCl (isR.filterMap (fun i => Ls[i]?) ++ w1 u).flatten H1 → va_D A0 (isR.filterMap (fun i => Ls[i]?) ++ w1 u).flatten → va_S A0 H0 H1 locs1 → W p l e R s m args below meth c H1 locs1 (cells + mc) (slots + ms) Q (F0 m (pc + 3) ls (.long r :: rest))) : W p l e R s m args below meth c H locs cells slots Q (F0 m pc ls st0) := by
  refine va_calll hr hS (fun q _ h => fl_free hD hS hA isC hC q h) (fl_free hD hS hA isC hC) (fun r u t H1 locs1 ht hvm hp hB hz hk hS1 => ?_)
  obtain ⟨hP1, _, hD1⟩ := hB
  rw [ht] at hP1
  obtain ⟨hPj, hDj⟩ := fl_join hP hD isC isR hC hR hn hdis hk (fl_free hD hS hA isC hC) hP1 hD1
  exact kk r u H1 locs1 hp hPj hDj hS1
theorem fd_v {S : Type} {D : va_G} {cy : Nat → ClassId} {post : S → Prop} {Ls Lc : List va_W} {w1 : S → List va_W} (isC isR : List Nat) (hP : va_P D vwCl Ls.flatten H) (hD : va_D A0 Ls.flatten) (hS : va_S A0 H0 H locs) (hA : ∀ q, H0.size ≤ q → A0 q) (hC : isC.map (fun i => Ls[i]?) = Lc.map some) (hR : isR.map (fun i => Ls[i]?) = (isR.filterMap (fun i => Ls[i]?)).map some) (hn : va_nd isR = true) (hdis : ∀ i ∈ isR, i ∉ isC)
    (hr : va_Run p l e R s m args below meth c H locs cells slots mc ms (F0 m pc ls st0) rest (va_Qv post (fun u t => kB D cy (va_A Lc.flatten H.size) (w1 u).flatten t) (va_A Lc.flatten H.size) a) (va_A Lc.flatten H.size))
    (kk : ∀ (u : S) (H1 : Heap) (locs1 : List Loc), post u → va_P D vwCl (isR.filterMap (fun i => Ls[i]?) ++ w1 u).flatten H1 → va_D A0 (isR.filterMap (fun i => Ls[i]?) ++ w1 u).flatten → va_S A0 H0 H1 locs1 → W p l e R s m args below meth c H1 locs1 (cells + mc) (slots + ms) Q (F0 m (pc + 3) ls rest)) : W p l e R s m args below meth c H locs cells slots Q (F0 m pc ls st0) := by
  refine va_callv hr hS (fun q _ h => fl_free hD hS hA isC hC q h) (fl_free hD hS hA isC hC) (fun u t H1 locs1 ht hvm hp hB hz hk hS1 => ?_)
  obtain ⟨hP1, _, hD1⟩ := hB
  rw [ht] at hP1
  obtain ⟨hPj, hDj⟩ := fl_join hP hD isC isR hC hR hn hdis hk (fl_free hD hS hA isC hC) hP1 hD1
  exact kk u H1 locs1 hp hPj hDj hS1
/-- an answer that is a cell whose address is told -/
theorem fd_r {S : Type} {D : va_G} {cy : Nat → ClassId} {post : S → Prop} {Ls Lc : List va_W} {w1 : S → List va_W} {ad : S → Nat} (isC isR : List Nat) (hP : va_P D vwCl Ls.flatten H) (hD : va_D A0 Ls.flatten) (hS : va_S A0 H0 H locs) (hA : ∀ q, H0.size ≤ q → A0 q) (hC : isC.map (fun i => Ls[i]?) = Lc.map some) (hR : isR.map (fun i => Ls[i]?) = (isR.filterMap (fun i => Ls[i]?)).map some) (hn : va_nd isR = true) (hdis : ∀ i ∈ isR, i ∉ isC)
    (hr : va_Run p l e R s m args below meth c H locs cells slots mc ms (F0 m pc ls st0) rest (va_Qr post (fun u b t => b = ad u ∧ kB D cy (va_A Lc.flatten H.size) (w1 u).flatten t) (va_A Lc.flatten H.size) a) (va_A Lc.flatten H.size))
    (kk : ∀ (u : S) (H1 : Heap) (locs1 : List Loc), post u → va_P D vwCl (isR.filterMap (fun i => Ls[i]?) ++ w1 u).flatten H1 → va_D A0 (isR.filterMap (fun i => Ls[i]?) ++ w1 u).flatten → va_S A0 H0 H1 locs1 → W p l e R s m args below meth c H1 locs1 (cells + mc) (slots + ms) Q (F0 m (pc + 3) ls (.ref (ad u) :: rest))) : W p l e R s m args below meth c H locs cells slots Q (F0 m pc ls st0) := by
  refine va_callr hr hS (fun q _ h => fl_free hD hS hA isC hC q h) (fl_free hD hS hA isC hC) (fun u b t H1 locs1 ht hvm hp hB hz hk hS1 => ?_)
  obtain ⟨hb, hP1, _, hD1⟩ := hB
  subst hb
  rw [ht] at hP1
  obtain ⟨hPj, hDj⟩ := fl_join hP hD isC isR hC hR hn hdis hk (fl_free hD hS hA isC hC) hP1 hD1
  exact kk u H1 locs1 hp hPj hDj hS1
end FC
