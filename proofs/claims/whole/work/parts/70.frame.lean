/-! LEVEL 3: contracts with worlds told by what they hold -/
theorem met_cons {l : Launch} {y : MethodName} {ws : List Cond} {rm : Room} {Pc Pc' : Array Value → State → Prop} {Qc Qc' : Array Value → State → Outcome → State → Prop} {mc ms : Nat} {free free' : Addr → Prop} (h : Met l y ws rm Pc Qc mc ms free) (hp : ∀ a s, Pc' a s → Pc a s) (hq : ∀ a s o t, Pc' a s → Qc a s o t → Qc' a s o t) (hf : ∀ q, free q → free' q) : Met l y ws rm Pc' Qc' mc ms free' := by
  intro p e ha hc hk s m args below hfr happ hP hK
  obtain ⟨n, o, h1, h2, h3, h4, L, h5, h6⟩ := h p e ha hc hk s m args below hfr happ (hp _ _ hP) hK
  exact ⟨n, o, h1, h2, h3, hq _ _ _ _ hP h4, L, h5, fun q hq => hf _ (h6 q hq)⟩
theorem fl_A {Ls Lc : List va_W} {is : List Nat} {sz : Nat} (hC : is.map (fun i => Ls[i]?) = Lc.map some) : ∀ q, va_A Lc.flatten sz q → va_A Ls.flatten sz q := by
  intro q h
  rcases h with ⟨k, e, h⟩ | h
  · obtain ⟨_, i, L, _, _, h2, h3⟩ := fl_sub hC (List.mem_of_getElem? h)
    obtain ⟨j, hj⟩ := List.mem_iff_getElem?.mp (List.mem_flatten.mpr ⟨L, List.mem_of_getElem? h2, h3⟩)
    exact Or.inl ⟨j, e, hj⟩
  · exact Or.inr h
section CL
variable {l : Launch} {y : MethodName} {wz : List Cond} {rm : Room} {D : va_G} {cy : Nat → ClassId} {As : List Value} {Ls Lc Lr : List va_W} {sz mc ms : Nat}
theorem kPc_sub (isC : List Nat) (hC : isC.map (fun i => Ls[i]?) = Lc.map some) (hn : va_nd isC = true) : ∀ a s, kPc As D cy Ls.flatten sz a s → kPc As D cy Lc.flatten sz a s := by
  intro a s h
  obtain ⟨h0, h1, h2, h3, h4, h5⟩ := h
  exact ⟨h0, h1, h2, fl_P h3 isC hC, h4, fl_D h5 isC hn hC⟩
theorem cl_B {S : Type} {w1 Lf : S → List va_W} {a : Array Value} {s t : State} (isC isR isF : List Nat) (hC : isC.map (fun i => Ls[i]?) = Lc.map some) (hR : isR.map (fun i => Ls[i]?) = Lr.map some) (hnR : va_nd isR = true) (hdis : ∀ i ∈ isR, i ∉ isC) (hF : ∀ u, isF.map (fun i => (Lr ++ w1 u)[i]?) = (Lf u).map some) (hnF : va_nd isF = true)
    (hp : kPc As D cy Ls.flatten sz a s) (hf : va_F (va_A Lc.flatten sz) s t) {u : S} (hB : kB D cy (va_A Lc.flatten sz) (w1 u).flatten t) : kB D cy (va_A Ls.flatten sz) (Lf u).flatten t := by
  obtain ⟨_, h1, _, h3, _, h5⟩ := hp
  subst h1
  obtain ⟨hP1, hK1, hD1⟩ := hB
  have hD : va_D (va_A Ls.flatten s.heap.size) Ls.flatten := h5.self
  obtain ⟨hPj, hDj⟩ := fl_join h3 hD isC isR hC hR hnR hdis hf.2 (fl_A hC) hP1 hD1
  exact ⟨fl_P hPj isF (hF u), hK1, fl_D hDj isF hnF (hF u)⟩
theorem cl_i {S : Type} {post : Int32 → S → Prop} {w1 Lf : S → List va_W} {G : Int32 → va_W → Prop} (h : Met l y wz rm (kPc As D cy Lc.flatten sz) (va_Qi post (fun u t => kB D cy (va_A Lc.flatten sz) (w1 u).flatten t) (va_A Lc.flatten sz)) mc ms (va_A Lc.flatten sz)) (isC isR isF : List Nat) (hC : isC.map (fun i => Ls[i]?) = Lc.map some) (hnC : va_nd isC = true) (hR : isR.map (fun i => Ls[i]?) = Lr.map some) (hnR : va_nd isR = true) (hdis : ∀ i ∈ isR, i ∉ isC) (hF : ∀ u, isF.map (fun i => (Lr ++ w1 u)[i]?) = (Lf u).map some) (hnF : va_nd isF = true) (hG : ∀ r u, post r u → G r (Lf u).flatten) :
    Met l y wz rm (kPc As D cy Ls.flatten sz) (va_Qi (fun r (C : va_W) => G r C) (fun C t => kB D cy (va_A Ls.flatten sz) C t) (va_A Ls.flatten sz)) mc ms (va_A Ls.flatten sz) := by
  refine met_cons h (kPc_sub isC hC hnC) ?_ (fl_A hC)
  intro a s o t hp hq
  obtain ⟨⟨r, u, ho, hpo, hB⟩, hf⟩ := hq
  exact ⟨⟨r, (Lf u).flatten, ho, hG r u hpo, cl_B isC isR isF hC hR hnR hdis hF hnF hp hf hB⟩, hf.1, fun q h1 h2 => hf.2 q h1 (fun h3 => h2 (fl_A hC q h3))⟩
theorem cl_l {S : Type} {post : Int64 → S → Prop} {w1 Lf : S → List va_W} {G : Int64 → va_W → Prop} (h : Met l y wz rm (kPc As D cy Lc.flatten sz) (va_Ql post (fun u t => kB D cy (va_A Lc.flatten sz) (w1 u).flatten t) (va_A Lc.flatten sz)) mc ms (va_A Lc.flatten sz)) (isC isR isF : List Nat) (hC : isC.map (fun i => Ls[i]?) = Lc.map some) (hnC : va_nd isC = true) (hR : isR.map (fun i => Ls[i]?) = Lr.map some) (hnR : va_nd isR = true) (hdis : ∀ i ∈ isR, i ∉ isC) (hF : ∀ u, isF.map (fun i => (Lr ++ w1 u)[i]?) = (Lf u).map some) (hnF : va_nd isF = true) (hG : ∀ r u, post r u → G r (Lf u).flatten) :
    Met l y wz rm (kPc As D cy Ls.flatten sz) (va_Ql (fun r (C : va_W) => G r C) (fun C t => kB D cy (va_A Ls.flatten sz) C t) (va_A Ls.flatten sz)) mc ms (va_A Ls.flatten sz) := by
  refine met_cons h (kPc_sub isC hC hnC) ?_ (fl_A hC)
  intro a s o t hp hq
  obtain ⟨⟨r, u, ho, hpo, hB⟩, hf⟩ := hq
  exact ⟨⟨r, (Lf u).flatten, ho, hG r u hpo, cl_B isC isR isF hC hR hnR hdis hF hnF hp hf hB⟩, hf.1, fun q h1 h2 => hf.2 q h1 (fun h3 => h2 (fl_A hC q h3))⟩
end CL
section CP
variable {l : Launch} {y : MethodName} {wz : List Cond} {rm : Room} {D : va_G} {cy : Nat → ClassId} {As : List Value} {Ls Lc : List va_W} {sz : Nat}
theorem cl_p {post : Int32 → Prop} {G : Int32 → va_W → Prop} (h : Met l y wz rm (kPc As D cy Lc.flatten sz) (kSi post) 0 0 (fun _ => False)) (isC : List Nat) (hC : isC.map (fun i => Ls[i]?) = Lc.map some) (hnC : va_nd isC = true) (hG : ∀ r, post r → G r Ls.flatten) :
    Met l y wz rm (kPc As D cy Ls.flatten sz) (va_Qi (fun r (C : va_W) => G r C) (fun C t => kB D cy (va_A Ls.flatten sz) C t) (va_A Ls.flatten sz)) 0 0 (va_A Ls.flatten sz) := by
  intro p e ha hc hk s m args below hfr happ hP hK
  obtain ⟨n, o, h1, h2, h3, ⟨r, ho, hr, ht⟩, L, h5, h6⟩ := h p e ha hc hk s m args below hfr happ (kPc_sub isC hC hnC _ _ hP) hK
  obtain ⟨q0, q1, _, q3, q4, q5⟩ := hP
  subst q1
  exact ⟨n, o, h1, h2, h3, ⟨⟨r, Ls.flatten, ho, hG r hr, by rw [ht]; exact q3, va_K.moved h5.2.1.alike q4, q5.self⟩, by rw [ht]; exact Nat.le_refl _, fun q _ _ => by rw [ht]⟩, L, h5, fun q hq => absurd (h6 q hq) id⟩
theorem cl_q {post : Int64 → Prop} {G : Int64 → va_W → Prop} (h : Met l y wz rm (kPc As D cy Lc.flatten sz) (kSl post) 0 0 (fun _ => False)) (isC : List Nat) (hC : isC.map (fun i => Ls[i]?) = Lc.map some) (hnC : va_nd isC = true) (hG : ∀ r, post r → G r Ls.flatten) :
    Met l y wz rm (kPc As D cy Ls.flatten sz) (va_Ql (fun r (C : va_W) => G r C) (fun C t => kB D cy (va_A Ls.flatten sz) C t) (va_A Ls.flatten sz)) 0 0 (va_A Ls.flatten sz) := by
  intro p e ha hc hk s m args below hfr happ hP hK
  obtain ⟨n, o, h1, h2, h3, ⟨r, ho, hr, ht⟩, L, h5, h6⟩ := h p e ha hc hk s m args below hfr happ (kPc_sub isC hC hnC _ _ hP) hK
  obtain ⟨q0, q1, _, q3, q4, q5⟩ := hP
  subst q1
  exact ⟨n, o, h1, h2, h3, ⟨⟨r, Ls.flatten, ho, hG r hr, by rw [ht]; exact q3, va_K.moved h5.2.1.alike q4, q5.self⟩, by rw [ht]; exact Nat.le_refl _, fun q _ _ => by rw [ht]⟩, L, h5, fun q hq => absurd (h6 q hq) id⟩
end CP
