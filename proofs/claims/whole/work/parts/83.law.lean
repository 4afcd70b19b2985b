/-! THE LAW: its loop, its start -/
theorem more {k L : Nat} (hL : L ≤ 2560) (hk : 5 * k ≤ L) (c : ¬ Int32.ofNat L - 5 < nI (5 * k)) : 5 * k + 5 ≤ L := by
  have e1 : Int32.ofNat L - 5 = Int32.ofInt ((L : Int) - 5) := by
    rw [Int32.ofInt_sub]
    have a : Int32.ofInt (L : Int) = Int32.ofNat L := Int32.ofInt_eq_ofNat
    rw [a]
    rfl
  have e2 : nI (5 * k) = Int32.ofInt ((5 * k : Nat) : Int) := nI_ofInt _
  rw [e1, e2, ltI (by omega) (by omega)] at c
  omega
set_option maxHeartbeats 4000000 in
set_option maxRecDepth 100000 in
theorem law_loop {p : Program} {l : Launch} {e0 : Env} {s : State} {m : MethodId} {below : List Frame} {meth : Method} {c : Code} {b L : Nat} {xs : Nat → Int32} {D : va_G} {cy : Nat → ClassId} {hSP hMo : Nat} (X : LX p s m c b L xs D cy) (hr : meth.sig.returnType = ret) (hlocks : meth.locks = false) (hL : L ≤ 2560) :
    ∀ (r k : Nat), k + r = 513 → 5 * k ≤ L → ∀ (σ : Nat → Nat → Int32) (v e : Nat) (C M : va_W) (H : Heap) (locs : List Loc) (ls : Array Slot), LI s D cy hSP hMo σ v e k C M H locs → lv_has ls 4 [(0, .ref b), (1, .ref hSP), (2, .ref hMo), (3, .int (nI (5 * k)))] → W p l e0 room_1 s m #[Value.ref b] below meth c H locs (56 + 20 * k) (30000 + 10529 * k) (lw_Z below #[Value.ref b] s) (F0 m 18 ls []) := by
  obtain ⟨hx, hb, hml, hown, htl, hX, hbl, hK, hN⟩ := id X
  have hA : ∀ q : Nat, s.heap.size ≤ q → (fun q : Nat => s.heap.size ≤ q) q := fun _ h => h
  have hbA : ¬ (fun q : Nat => s.heap.size ≤ q) b := Nat.not_le.mpr hbl
  intro r
  induction r with
  | zero =>
    intro k hk h5
    exact absurd h5 (by omega)
  | succ r ih =>
    intro k hk h5 σ v e C M H locs ls I hl
    have hS := I.2.2.1
    refine lv_iload_n hx hb dL_law_18 rfl (lv_at hl 3 rfl) ?_
    refine lv_aload_n hx hb dL_law_19 rfl (lv_at hl 0 rfl) ?_
    refine va_slen hx hb hX hbl hbA hS dL_law_20 ?_
    refine lv_iconst (v := 5) hx hb dL_law_21 (by decide) ?_
    refine lv_isub hx hb dL_law_22 ?_
    refine lv_icmp_gt (tgt := 897) hx hb dL_law_23 (by decide) (fun c1 => ?_) (fun c1 => ?_)
    · refine lv_iconst (v := 1) hx hb dL_law_897 (by decide) ?_
      refine va_forget (fun q hq => hS.2.2 q hq) ?_
      refine W.widen (k := 600000) (n := 7302250) (by omega) (by omega) ?_
      exact lw_ret hx hb hr hlocks dL_law_898
    · have hi := more hL h5 c1
      have nx : ∀ (σ' : Nat → Nat → Int32) (v' e' : Nat) (C' M' : va_W) (H' : Heap) (locs' : List Loc), LI s D cy hSP hMo σ' v' e' (k + 1) C' M' H' locs' → W p l e0 room_1 s m #[Value.ref b] below meth c H' locs' (56 + 20 * (k + 1)) (30000 + 10529 * (k + 1)) (lw_Z below #[Value.ref b] s) (F0 m 891 ls []) := by
        intro σ' v' e' C' M' H' locs' I'
        refine lv_iinc (v := nI (5 * (k + 1))) (lv' := [(3, .int (nI (5 * (k + 1)))), (0, .ref b), (1, .ref hSP), (2, .ref hMo)]) hx hb dL_law_891 hl (k := 3) rfl ?_ (by decide) rfl (fun ls hl => ?_)
        · have : nI (5 * k) + nI 5 = nI (5 * (k + 1)) := by rw [nI_add]; congr 1
          exact this
        · refine lv_goto (tgt := 18) hx hb dL_law_894 (by decide) ?_
          exact ih (k + 1) (by omega) (by omega) σ' v' e' C' M' H' locs' ls I' (lv_sub hl [1, 2, 3, 0] rfl)
      refine lv_aload_n hx hb dL_law_26 rfl (lv_at hl 0 rfl) ?_
      refine lv_iload_n hx hb dL_law_27 rfl (lv_at hl 3 rfl) ?_
      refine va_sld hx hb hX hbl hbA hS (vp_in_nI (n := 5 * k) (by omega) (by omega)) dL_law_28 ?_
      refine lv_bipush (v := 31) hx hb dL_law_29 (by decide) ?_
      refine lv_iand hx hb dL_law_31 ?_
      refine lv_topi (fun t et => ?_)
      by_cases hin : t.toInt < 0 ∨ 22 < t.toInt
      · refine lv_tableOut (tgt := 891) hx hb dL_law_32 hin (by decide) ?_
        refine W.widen (k := 56 + 20 * (k + 1)) (n := 30000 + 10529 * (k + 1)) (by omega) (by omega) ?_
        exact nx σ v e C M H locs ⟨I.1, I.2.1, I.2.2.1, WCn_up I.2.2.2.1, I.2.2.2.2⟩
      · have n1 : ¬ t.toInt < 0 := fun q => hin (Or.inl q)
        have n2 : ¬ 22 < t.toInt := fun q => hin (Or.inr q)
        rcases (show t.toInt = 0 ∨ t.toInt = 1 ∨ t.toInt = 2 ∨ t.toInt = 3 ∨ t.toInt = 4 ∨ t.toInt = 5 ∨ t.toInt = 6 ∨ t.toInt = 7 ∨ t.toInt = 8 ∨ t.toInt = 9 ∨ t.toInt = 10 ∨ t.toInt = 11 ∨ t.toInt = 12 ∨ t.toInt = 13 ∨ t.toInt = 14 ∨ t.toInt = 15 ∨ t.toInt = 16 ∨ t.toInt = 17 ∨ t.toInt = 18 ∨ t.toInt = 19 ∨ t.toInt = 20 ∨ t.toInt = 21 ∨ t.toInt = 22 by omega) with hj | hj | hj | hj | hj | hj | hj | hj | hj | hj | hj | hj | hj | hj | hj | hj | hj | hj | hj | hj | hj | hj | hj
        · refine lv_tableIn (off := 108) (tgt := 140) hx hb dL_law_32 n1 n2 (by rw [hj]; rfl) (by decide) ?_
          exact lc_station X hL hi I hl nx
        · refine lv_tableIn (off := 161) (tgt := 193) hx hb dL_law_32 n1 n2 (by rw [hj]; rfl) (by decide) ?_
          exact lc_sign X hL hi I hl nx
        · refine lv_tableIn (off := 194) (tgt := 226) hx hb dL_law_32 n1 n2 (by rw [hj]; rfl) (by decide) ?_
          exact lc_weigh X hL hi I hl nx
        · refine lv_tableIn (off := 227) (tgt := 259) hx hb dL_law_32 n1 n2 (by rw [hj]; rfl) (by decide) ?_
          exact lc_drop X hL hi I hl nx
        · refine lv_tableIn (off := 250) (tgt := 282) hx hb dL_law_32 n1 n2 (by rw [hj]; rfl) (by decide) ?_
          exact lc_turn X hL hi I hl nx
        · refine lv_tableIn (off := 273) (tgt := 305) hx hb dL_law_32 n1 n2 (by rw [hj]; rfl) (by decide) ?_
          exact lc_ofStation X hL hi I hl nx
        · refine lv_tableIn (off := 306) (tgt := 338) hx hb dL_law_32 n1 n2 (by rw [hj]; rfl) (by decide) ?_
          exact lc_size X hL hi I hl nx
        · refine lv_tableIn (off := 329) (tgt := 361) hx hb dL_law_32 n1 n2 (by rw [hj]; rfl) (by decide) ?_
          exact lc_extra X hL hi I hl nx
        · refine lv_tableIn (off := 352) (tgt := 384) hx hb dL_law_32 n1 n2 (by rw [hj]; rfl) (by decide) ?_
          exact lc_pole X hL hi I hl nx
        · refine lv_tableIn (off := 385) (tgt := 417) hx hb dL_law_32 n1 n2 (by rw [hj]; rfl) (by decide) ?_
          exact lc_poleOf X hL hi I hl nx
        · refine lv_tableIn (off := 428) (tgt := 460) hx hb dL_law_32 n1 n2 (by rw [hj]; rfl) (by decide) ?_
          exact lc_pair X hL hi I hl nx
        · refine lv_tableIn (off := 461) (tgt := 493) hx hb dL_law_32 n1 n2 (by rw [hj]; rfl) (by decide) ?_
          exact lc_pairOf X hL hi I hl nx
        · refine lv_tableIn (off := 494) (tgt := 526) hx hb dL_law_32 n1 n2 (by rw [hj]; rfl) (by decide) ?_
          exact lc_solution X hL hi I hl nx
        · refine lv_tableIn (off := 527) (tgt := 559) hx hb dL_law_32 n1 n2 (by rw [hj]; rfl) (by decide) ?_
          exact lc_signAt X hL hi I hl nx
        · refine lv_tableIn (off := 580) (tgt := 612) hx hb dL_law_32 n1 n2 (by rw [hj]; rfl) (by decide) ?_
          exact lc_kept X hL hi I hl nx
        · refine lv_tableIn (off := 603) (tgt := 635) hx hb dL_law_32 n1 n2 (by rw [hj]; rfl) (by decide) ?_
          exact lc_axis X hL hi I hl nx
        · refine lv_tableIn (off := 636) (tgt := 668) hx hb dL_law_32 n1 n2 (by rw [hj]; rfl) (by decide) ?_
          exact lc_apart X hL hi I hl nx
        · refine lv_tableIn (off := 680) (tgt := 712) hx hb dL_law_32 n1 n2 (by rw [hj]; rfl) (by decide) ?_
          exact lc_spread X hL hi I hl nx
        · refine lv_tableIn (off := 704) (tgt := 736) hx hb dL_law_32 n1 n2 (by rw [hj]; rfl) (by decide) ?_
          exact lc_centre X hL hi I hl nx
        · refine lv_tableIn (off := 717) (tgt := 749) hx hb dL_law_32 n1 n2 (by rw [hj]; rfl) (by decide) ?_
          exact lc_without X hL hi I hl nx
        · refine lv_tableIn (off := 750) (tgt := 782) hx hb dL_law_32 n1 n2 (by rw [hj]; rfl) (by decide) ?_
          exact lc_turned X hL hi I hl nx
        · refine lv_tableIn (off := 783) (tgt := 815) hx hb dL_law_32 n1 n2 (by rw [hj]; rfl) (by decide) ?_
          exact lc_foretold X hL hi I hl nx
        · refine lv_tableIn (off := 836) (tgt := 868) hx hb dL_law_32 n1 n2 (by rw [hj]; rfl) (by decide) ?_
          exact lc_many X hL hi I hl nx
section LDV
variable {p : Program} {l : Launch} {e : Env} {R : Room} {s : State} {m : MethodId} {args : Array Value} {below : List Frame} {meth : Method} {c : Code} {H : Heap} {locs : List Loc} {cells slots : Nat} {Q : State → Prop}
variable {pc : Nat} {ls : Array Slot} {rest st0 : List Value} {a : Array Value} {A0 : Nat → Prop} {H0 : Heap} {mc ms : Nat} {D : va_G} {cy : Nat → ClassId} {C M : va_W}
theorem ldM_v {G : va_W → Prop} (hP : va_P D vwCl (List.flatten [C, M]) H) (hD : va_D A0 (List.flatten [C, M])) (hS : va_S A0 H0 H locs) (hA : ∀ q, H0.size ≤ q → A0 q) (hr : va_Run p l e R s m args below meth c H locs cells slots mc ms (F0 m pc ls st0) rest (va_Qv G (fun C' t => kB D cy (va_A M H.size) C' t) (va_A M H.size) a) (va_A M H.size))
    (kk : ∀ (M' : va_W) (H1 : Heap) (locs1 : List Loc), G M' → va_P D vwCl (List.flatten [C, M']) H1 → va_D A0 (List.flatten [C, M']) → va_S A0 H0 H1 locs1 → W p l e R s m args below meth c H1 locs1 (cells + mc) (slots + ms) Q (F0 m (pc + 3) ls rest)) : W p l e R s m args below meth c H locs cells slots Q (F0 m pc ls st0) := by
  refine va_callv hr hS (fun q _ h => frM hD hS hA q h) (frM hD hS hA) (fun u t H1 locs1 ht hvm hp hB hz hk hS1 => ?_)
  obtain ⟨hP1, _, hD1⟩ := hB
  rw [ht] at hP1
  obtain ⟨hPj, hDj⟩ := ldM_j hP hD hS hA hk hP1 hD1
  exact kk u H1 locs1 hp hPj hDj hS1
end LDV
theorem arr_of {s : State} {args : Array Value} {ty : FieldType} (hp : ∀ C, ty ≠ .object C) (h : (Cond.arrayClass ty).before args s = true) : ∃ cA, ArrOfT s cA ty ∧ va_RA s cA ty := by
  obtain ⟨cA, kA, comp, h1, h2, h3⟩ := Cond.arrayClass_spec h
  refine ⟨cA, fun n z => ⟨(fun k h => by cases h), kA, h2, comp, h3⟩, ?_⟩
  cases ty with
  | object C => exact absurd rfl (hp C)
  | _ => exact h1
theorem arr_ob {s : State} {C : String} (h : va_AO C s) : ∃ cA, ArrOfT s cA (.object C) ∧ va_RA s cA (.object C) := by
  obtain ⟨comp, cA, kA, h1, _, h3, h4, h5⟩ := Cond.arrayOver_spec h
  exact ⟨cA, fun n z => ⟨(fun k h => by cases h), kA, h3, comp, h4⟩, kA, comp, h3, h4, h1, h5⟩
set_option maxHeartbeats 4000000 in
set_option maxRecDepth 100000 in
theorem law_K {s : State} {args : Array Value} (hts : ∀ w ∈ lw_tbl, w.before args s = true) : ∃ (D : va_G) (cy : Nat → ClassId), va_K D vwCl (tY cy) s := by
  obtain ⟨cX0, iX0, hKnX0⟩ := u_known (C := RX0) (T := TX0) (N := 11) (n := 11) hts uw_X0 (hts (.instantiable RX0 11) (wsL_law_in _ mw_6_4))
  obtain ⟨cX1, iX1, hKnX1⟩ := u_known (C := RX1) (T := TX1) (N := 12) (n := 12) hts uw_X1 (hts (.instantiable RX1 12) (wsL_law_in _ mw_2_2))
  obtain ⟨cX2, iX2, hKnX2⟩ := u_known (C := RX2) (T := TX2) (N := 5) (n := 5) hts uw_X2 (hts (.instantiable RX2 5) (wsL_law_in _ mw_1_17))
  obtain ⟨cX3, iX3, hKnX3⟩ := u_known (C := RX3) (T := TX3) (N := 11) (n := 11) hts uw_X3 (hts (.instantiable RX3 11) (wsL_law_in _ mw_1_23))
  obtain ⟨cX4, iX4, hKnX4⟩ := u_known (C := RX4) (T := TX4) (N := 6) (n := 6) hts uw_X4 (hts (.instantiable RX4 6) (wsL_law_in _ mw_1_13))
  obtain ⟨cX5, iX5, hKnX5⟩ := u_known (C := RX5) (T := TX5) (N := 7) (n := 7) hts uw_X5 (hts (.instantiable RX5 7) (wsL_law_in _ mw_1_1))
  obtain ⟨cX6, iX6, hKnX6⟩ := u_known (C := RX6) (T := TX6) (N := 32) (n := 32) hts uw_X6 (hts (.instantiable RX6 32) (wsL_law_in _ mw_1_4))
  obtain ⟨a0, r0⟩ := arr_of (by intro C h; cases h) (hts _ aw_int)
  obtain ⟨a1, r1⟩ := arr_of (by intro C h; cases h) (hts _ aw_boolean)
  obtain ⟨a2, r2⟩ := arr_of (by intro C h; cases h) (hts _ aw_long)
  obtain ⟨a3, r3⟩ := arr_ob (va_AO.of (hts _ aw_o))
  refine ⟨(fun k => if k = 0 then cX0 else if k = 1 then cX1 else if k = 2 then cX2 else if k = 3 then cX3 else if k = 4 then cX4 else if k = 5 then cX5 else cX6, fun k => if k = 0 then iX0 else if k = 1 then iX1 else if k = 2 then iX2 else if k = 3 then iX3 else if k = 4 then iX4 else if k = 5 then iX5 else iX6), fun k => if k = 0 then a0 else if k = 1 then a1 else if k = 2 then a2 else a3, ?_, ?_⟩
  · intro k q hq
    match k, hq with
    | 0, hq => cases hq; exact hKnX0
    | 1, hq => cases hq; exact hKnX1
    | 2, hq => cases hq; exact hKnX2
    | 3, hq => cases hq; exact hKnX3
    | 4, hq => cases hq; exact hKnX4
    | 5, hq => cases hq; exact hKnX5
    | 6, hq => cases hq; exact hKnX6
    | k + 7, hq => simp [vwCl] at hq
  · intro k q hq
    match k, hq with
    | 0, hq => cases hq; exact r0
    | 1, hq => cases hq; exact r1
    | 2, hq => cases hq; exact r2
    | 3, hq => cases hq; exact r3
    | k + 4, hq => simp [tY] at hq
set_option maxHeartbeats 4000000 in
set_option maxRecDepth 100000 in
theorem whole_start {p : Program} {e : Env} {s : State} {m : MethodId} {below : List Frame} {meth : Method} {c : Code} (l : Launch) (hflags : l.flags = flags0) {b L : Nat} {xs : Nat → Int32} (hL : L ≤ 2560) (C0 : lw_At p s m meth c b L xs) : W p l e room_1 s m #[Value.ref b] below meth c s.heap [] 0 0 (lw_Z below #[Value.ref b] s) (entryFrame m ([Value.ref b] : List Value).toArray 4) := by
  obtain ⟨hx, hb, hr, hml, hown, hts, hX, hbl, hlocks, hgv⟩ := id C0
  have hA : ∀ q : Nat, s.heap.size ≤ q → (fun q : Nat => s.heap.size ≤ q) q := fun _ h => h
  have hbA : ¬ (fun q : Nat => s.heap.size ≤ q) b := Nat.not_le.mpr hbl
  have hown : s.vm.findClass RL = some m.cls := hown
  have hb : c.code = cL_law := hb
  have htl : ∀ w ∈ wsL_law, w.before #[Value.ref b] s = true := fun w h => hts w (wsL_law_in w h)
  obtain ⟨D, cy, hK⟩ := law_K hts
  have hN : kN s := ⟨va_Nw.of rfl (hts _ nw_0), va_Nw.of rfl (hts _ nw_1), va_Nw.of rfl (hts _ nw_2), va_Nw.of rfl (hts _ nw_3), va_Nw.of rfl (hts _ nw_4)⟩
  have hO : va_AO "SquarePlanes$Ranking" s := va_AO.of (hts _ aw_o)
  have hS : va_S (fun q : Nat => s.heap.size ≤ q) s.heap s.heap [] := va_S.rf
  have hP : va_P D vwCl ([] : va_W) s.heap := fun k q h => by simp at h
  have hD : va_D (fun q : Nat => s.heap.size ≤ q) ([] : va_W) := ⟨fun i j p q h => by simp at h, fun k q h => by simp at h⟩
  have hn2 := nPr_2
  have hq2 := nPol_le 2
  have ha2 : nAx 2 ≤ nPr 2 := axL_len 2 (nPr 2)
  have hl := lv_entry ([.ref b]) (n := 4) (Nat.le_of_ble_eq_true rfl)
  rw [lg_entry_eq]
  generalize (lg_sl ([.ref b]) ++ List.replicate (4 - (lg_sl ([.ref b])).length) Slot.unset).toArray = ls at hl ⊢
  have hl : lv_has ls 4 [(0, .ref b)] := hl
  refine va_new (ci := 5) (fs := [.null, .null, .null, .null, .int 0, .int 0, .int 0]) (C := RX5) (T := TX5) (N := 7) hx hb htl inlX5 tyX5 tyX5_ok hown (htl (.classLink RL 7 RX5) mw_1_0) (htl (.instantiable RX5 7) mw_1_1) (htl (.initialized RX5) mw_1_2) hK hP hD hS hA rfl (fun j hj => by rcases (show j = 0 ∨ j = 1 ∨ j = 2 ∨ j = 3 ∨ j = 4 ∨ j = 5 ∨ j = 6 by omega) with rfl | rfl | rfl | rfl | rfl | rfl | rfl <;> rfl) (by show 0 + 1 ≤ 600000; omega) (by show 0 + 7 ≤ 7302250; omega) dL_law_0 (fun hSP H hP hD hS => ?_)
  have hP : va_P D vwCl ([(hSP, .inr (5, [.null, .null, .null, .null, .int 0, .int 0, .int 0]))] : va_W) H := hP
  have hD : va_D (fun q : Nat => s.heap.size ≤ q) ([(hSP, .inr (5, [.null, .null, .null, .null, .int 0, .int 0, .int 0]))] : va_W) := hD
  refine W.widen (k := 1) (n := 7) (by omega) (by omega) ?_
  refine lv_dup hx hb dL_law_3 rfl ?_
  refine kd_v [0] [] hP hD hS hA rfl rfl rfl (by decide) (va_runI (As := []) (rest := [.ref hSP]) ⟨hx, hb, hml, hown, htl⟩ (c_X5_init l D cy hSP _) (cwI 0 htl (gA mw_1_8) rfl rfl rfl (htl (.initialized RX5) mw_1_2) (htl (.methodLink RL 9 yX5_init) mw_1_6) (htl (.instanceMethod yX5_init) mw_1_7) rfl (by decide +kernel) ⟨Nat.le_of_ble_eq_true rfl, Nat.le_of_ble_eq_true rfl⟩) (kPreO hO hN hK hP hD [0] rfl rfl _) rfl rfl hl.1 rfl (lv_room (Nat.le_of_ble_eq_true rfl)) dL_law_4 ⟨by show 1 + 33 ≤ 600000; omega, by show 7 + (1778 + 3 * nAx 2 + nPr 2 + 7 * nPr 2 + nPol 2 + 3 * (2 * nPr 2)) ≤ 7302250; omega⟩) (fun C H locs hC hP hD hS => ?_)
  have hP : va_P D vwCl C H := hP
  have hD : va_D (fun q : Nat => s.heap.size ≤ q) C := hD
  refine W.widen (k := 34) (n := 5000) (by omega) (by omega) ?_
  refine lv_astore_n (lv' := [(1, .ref hSP), (0, .ref b)]) hx hb dL_law_7 rfl hl (by decide) rfl (fun ls hl => ?_)
  refine va_new (ci := 6) (fs := [.null, .null, .null, .null, .null, .null, .int 0, .int 0, .int 0, .null, .null, .null, .int 0, .null, .null, .int 0, .int 0, .int 0, .null, .null, .null, .null, .int 0, .int 0, .int 0, .int 0, .null, .null, .null, .null, .null, .null]) (C := RX6) (T := TX6) (N := 32) hx hb htl inlX6 tyX6 tyX6_ok hown (htl (.classLink RL 10 RX6) mw_1_3) (htl (.instantiable RX6 32) mw_1_4) (htl (.initialized RX6) mw_1_5) hK hP hD hS hA rfl (fun j hj => by rcases (show j = 0 ∨ j = 1 ∨ j = 2 ∨ j = 3 ∨ j = 4 ∨ j = 5 ∨ j = 6 ∨ j = 7 ∨ j = 8 ∨ j = 9 ∨ j = 10 ∨ j = 11 ∨ j = 12 ∨ j = 13 ∨ j = 14 ∨ j = 15 ∨ j = 16 ∨ j = 17 ∨ j = 18 ∨ j = 19 ∨ j = 20 ∨ j = 21 ∨ j = 22 ∨ j = 23 ∨ j = 24 ∨ j = 25 ∨ j = 26 ∨ j = 27 ∨ j = 28 ∨ j = 29 ∨ j = 30 ∨ j = 31 by omega) with rfl | rfl | rfl | rfl | rfl | rfl | rfl | rfl | rfl | rfl | rfl | rfl | rfl | rfl | rfl | rfl | rfl | rfl | rfl | rfl | rfl | rfl | rfl | rfl | rfl | rfl | rfl | rfl | rfl | rfl | rfl | rfl <;> rfl) (by show 34 + 1 ≤ 600000; omega) (by show 5000 + 32 ≤ 7302250; omega) dL_law_8 (fun hMo H hP hD hS => ?_)
  have efl : C ++ [(hMo, .inr (6, [.null, .null, .null, .null, .null, .null, .int 0, .int 0, .int 0, .null, .null, .null, .int 0, .null, .null, .int 0, .int 0, .int 0, .null, .null, .null, .null, .int 0, .int 0, .int 0, .int 0, .null, .null, .null, .null, .null, .null]))] = List.flatten [C, (List.flatten [([(hMo, .inr (6, [.null, .null, .null, .null, .null, .null, .int 0, .int 0, .int 0, .null, .null, .null, .int 0, .null, .null, .int 0, .int 0, .int 0, .null, .null, .null, .null, .int 0, .int 0, .int 0, .int 0, .null, .null, .null, .null, .null, .null]))] : va_W)])] := by simp
  rw [efl] at hP hD
  refine W.widen (k := 35) (n := 5032) (by omega) (by omega) ?_
  refine lv_dup hx hb dL_law_11 rfl ?_
  refine ldM_v hP hD hS hA (va_runI (As := []) (rest := [.ref hMo]) ⟨hx, hb, hml, hown, htl⟩ (c_X6_init l D cy hMo _) (cwI 0 htl (gA mw_7_6) rfl rfl rfl (htl (.initialized RX6) mw_1_5) (htl (.methodLink RL 12 yX6_init) mw_7_4) (htl (.instanceMethod yX6_init) mw_7_5) rfl (by decide +kernel) ⟨Nat.le_of_ble_eq_true rfl, Nat.le_of_ble_eq_true rfl⟩) (by have h := fPre (Lc := [(List.flatten [([(hMo, .inr (6, [.null, .null, .null, .null, .null, .null, .int 0, .int 0, .int 0, .null, .null, .null, .int 0, .null, .null, .int 0, .int 0, .int 0, .null, .null, .null, .null, .int 0, .int 0, .int 0, .int 0, .null, .null, .null, .null, .null, .null]))] : va_W)])]) hN hK hP hD [1] rfl rfl [.ref hMo]; rw [flat1] at h; exact h) rfl rfl hl.1 rfl (lv_room (Nat.le_of_ble_eq_true rfl)) dL_law_12 ⟨by show 35 + 21 ≤ 600000; omega, by show 5032 + 20299 ≤ 7302250; omega⟩) (fun M H locs hM hP hD hS => ?_)
  refine W.widen (k := 56 + 20 * 0) (n := 30000 + 10529 * 0) (by omega) (by omega) ?_
  refine lv_astore_n (lv' := [(2, .ref hMo), (1, .ref hSP), (0, .ref b)]) hx hb dL_law_15 rfl hl (by decide) rfl (fun ls hl => ?_)
  refine lv_iconst (v := 0) hx hb dL_law_16 (by decide) ?_
  refine lv_istore_n (lv' := [(3, .int 0), (2, .ref hMo), (1, .ref hSP), (0, .ref b)]) hx hb dL_law_17 rfl hl (by decide) rfl (fun ls hl => ?_)
  exact law_loop ⟨hx, hb, hml, hown, htl, hX, hbl, hK, hN⟩ hr hlocks hL 513 0 (by omega) (by omega) σ0 2 0 C M H locs ls ⟨hP, hD, hS, hC, hM⟩ (lv_sub hl [3, 2, 1, 0] rfl)
