/-! THE LAW: its cases -/
set_option maxHeartbeats 4000000 in
set_option maxRecDepth 100000 in
theorem lc_station {p : Program} {l : Launch} {e0 : Env} {s : State} {m : MethodId} {below : List Frame} {meth : Method} {c : Code} {b L : Nat} {xs : Nat → Int32} {D : va_G} {cy : Nat → ClassId} {hSP hMo : Nat} {σ : Nat → Nat → Int32} {v e k : Nat} {C M : va_W} {H : Heap} {locs : List Loc} {ls : Array Slot} (X : LX p s m c b L xs D cy) (hL : L ≤ 2560) (hi : 5 * k + 5 ≤ L) (I : LI s D cy hSP hMo σ v e k C M H locs) (hl : lv_has ls 4 [(0, .ref b), (1, .ref hSP), (2, .ref hMo), (3, .int (nI (5 * k)))]) (nx : ∀ σ' v' e' C' M' H' locs', LI s D cy hSP hMo σ' v' e' (k + 1) C' M' H' locs' → W p l e0 room_1 s m #[Value.ref b] below meth c H' locs' (56 + 20 * (k + 1)) (30000 + 10529 * (k + 1)) (lw_Z below #[Value.ref b] s) (F0 m 891 ls [])) : W p l e0 room_1 s m #[Value.ref b] below meth c H locs (56 + 20 * k) (30000 + 10529 * k) (lw_Z below #[Value.ref b] s) (F0 m 140 ls []) := by
  obtain ⟨hx, hb, hml, hown, htl, hX, hbl, hK, hN⟩ := X
  obtain ⟨hP, hD, hS, hC, hM⟩ := I
  have hA : ∀ q : Nat, s.heap.size ≤ q → (fun q : Nat => s.heap.size ≤ q) q := fun _ h => h
  have hbA : ¬ (fun q : Nat => s.heap.size ≤ q) b := Nat.not_le.mpr hbl
  refine lv_aload_n hx hb dL_law_140 rfl (lv_at hl 1 rfl) ?_
  refine lv_aload_n hx hb dL_law_141 rfl (lv_at hl 0 rfl) ?_
  refine lv_iload_n hx hb dL_law_142 rfl (lv_at hl 3 rfl) ?_
  refine lv_iconst (v := 1) hx hb dL_law_143 (by decide) ?_
  refine lv_iadd hx hb dL_law_144 ?_
  refine va_sld hx hb hX hbl hbA hS (inL (j := 1) hL hi (by omega)) dL_law_145 ?_
  refine lv_aload_n hx hb dL_law_146 rfl (lv_at hl 0 rfl) ?_
  refine lv_iload_n hx hb dL_law_147 rfl (lv_at hl 3 rfl) ?_
  refine lv_iconst (v := 2) hx hb dL_law_148 (by decide) ?_
  refine lv_iadd hx hb dL_law_149 ?_
  refine va_sld hx hb hX hbl hbA hS (inL (j := 2) hL hi (by omega)) dL_law_150 ?_
  refine lv_aload_n hx hb dL_law_151 rfl (lv_at hl 0 rfl) ?_
  refine lv_iload_n hx hb dL_law_152 rfl (lv_at hl 3 rfl) ?_
  refine lv_iconst (v := 3) hx hb dL_law_153 (by decide) ?_
  refine lv_iadd hx hb dL_law_154 ?_
  refine va_sld hx hb hX hbl hbA hS (inL (j := 3) hL hi (by omega)) dL_law_155 ?_
  refine lv_aload_n hx hb dL_law_156 rfl (lv_at hl 0 rfl) ?_
  refine lv_iload_n hx hb dL_law_157 rfl (lv_at hl 3 rfl) ?_
  refine lv_iconst (v := 4) hx hb dL_law_158 (by decide) ?_
  refine lv_iadd hx hb dL_law_159 ?_
  refine va_sld hx hb hX hbl hbA hS (inL (j := 4) hL hi (by omega)) dL_law_160 ?_
  refine ldC_i hP hD hS hA (va_runV (As := [.int (xs (nI (5 * k) + 1).toNatClampNeg), .int (xs (nI (5 * k) + 2).toNatClampNeg), .int (xs (nI (5 * k) + 3).toNatClampNeg), .int (xs (nI (5 * k) + 4).toNatClampNeg)]) (rest := []) ⟨hx, hb, hml, hown, htl⟩ (c_X5_station l D (xs (nI (5 * k) + 1).toNatClampNeg) (xs (nI (5 * k) + 2).toNatClampNeg) (xs (nI (5 * k) + 3).toNatClampNeg) (xs (nI (5 * k) + 4).toNatClampNeg) H.size (by omega) hC) (cwV 4 htl (gV mw_9_6 mw_9_7 mw_9_8 mw_1_2 mw_9_9) rfl rfl rfl (by decide +kernel) ⟨Nat.le_of_ble_eq_true rfl, Nat.le_of_ble_eq_true rfl⟩) (lPreC hN hK hP hD hC _) rfl rfl hl.1 rfl (lv_room (Nat.le_of_ble_eq_true rfl)) dL_law_161 ⟨by show 56 + 20 * k + 0 ≤ 600000; omega, by show 30000 + 10529 * k + 0 ≤ 7302250; omega⟩) (fun r C H locs h5 hP hD hS => ?_)
  refine lv_aload_n hx hb dL_law_164 rfl (lv_at hl 2 rfl) ?_
  refine lv_aload_n hx hb dL_law_165 rfl (lv_at hl 0 rfl) ?_
  refine lv_iload_n hx hb dL_law_166 rfl (lv_at hl 3 rfl) ?_
  refine lv_iconst (v := 1) hx hb dL_law_167 (by decide) ?_
  refine lv_iadd hx hb dL_law_168 ?_
  refine va_sld hx hb hX hbl hbA hS (inL (j := 1) hL hi (by omega)) dL_law_169 ?_
  refine lv_aload_n hx hb dL_law_170 rfl (lv_at hl 0 rfl) ?_
  refine lv_iload_n hx hb dL_law_171 rfl (lv_at hl 3 rfl) ?_
  refine lv_iconst (v := 2) hx hb dL_law_172 (by decide) ?_
  refine lv_iadd hx hb dL_law_173 ?_
  refine va_sld hx hb hX hbl hbA hS (inL (j := 2) hL hi (by omega)) dL_law_174 ?_
  refine lv_aload_n hx hb dL_law_175 rfl (lv_at hl 0 rfl) ?_
  refine lv_iload_n hx hb dL_law_176 rfl (lv_at hl 3 rfl) ?_
  refine lv_iconst (v := 3) hx hb dL_law_177 (by decide) ?_
  refine lv_iadd hx hb dL_law_178 ?_
  refine va_sld hx hb hX hbl hbA hS (inL (j := 3) hL hi (by omega)) dL_law_179 ?_
  refine lv_aload_n hx hb dL_law_180 rfl (lv_at hl 0 rfl) ?_
  refine lv_iload_n hx hb dL_law_181 rfl (lv_at hl 3 rfl) ?_
  refine lv_iconst (v := 4) hx hb dL_law_182 (by decide) ?_
  refine lv_iadd hx hb dL_law_183 ?_
  refine va_sld hx hb hX hbl hbA hS (inL (j := 4) hL hi (by omega)) dL_law_184 ?_
  refine ldM_i hP hD hS hA (va_runV (As := [.int (xs (nI (5 * k) + 1).toNatClampNeg), .int (xs (nI (5 * k) + 2).toNatClampNeg), .int (xs (nI (5 * k) + 3).toNatClampNeg), .int (xs (nI (5 * k) + 4).toNatClampNeg)]) (rest := [.int r]) ⟨hx, hb, hml, hown, htl⟩ (c_X6_station l D (xs (nI (5 * k) + 1).toNatClampNeg) (xs (nI (5 * k) + 2).toNatClampNeg) (xs (nI (5 * k) + 3).toNatClampNeg) (xs (nI (5 * k) + 4).toNatClampNeg) H.size hM) (cwV 4 htl (gV mw_10_1 mw_10_2 mw_10_3 mw_1_5 mw_10_4) rfl rfl rfl (by decide +kernel) ⟨Nat.le_of_ble_eq_true rfl, Nat.le_of_ble_eq_true rfl⟩) (lPreM hN hK hP hD hM _) rfl rfl hl.1 rfl (lv_room (Nat.le_of_ble_eq_true rfl)) dL_law_185 ⟨by show 56 + 20 * k + 0 + 0 ≤ 600000; omega, by show 30000 + 10529 * k + 0 + 0 ≤ 7302250; omega⟩) (fun r2 M H locs h6 hP hD hS => ?_)
  have heq := h5.1.trans h6.1.symm
  refine lv_icmp_eq (tgt := 891) hx hb dL_law_188 (by decide) (fun c0 => ?_) (fun c0 => ?_)
  · refine W.widen (k := 56 + 20 * (k + 1)) (n := 30000 + 10529 * (k + 1)) (by omega) (by omega) ?_
    exact nx _ _ _ _ _ _ _ ⟨hP, hD, hS, h5.2, h6.2⟩
  · exact absurd heq c0
set_option maxHeartbeats 4000000 in
set_option maxRecDepth 100000 in
theorem lc_sign {p : Program} {l : Launch} {e0 : Env} {s : State} {m : MethodId} {below : List Frame} {meth : Method} {c : Code} {b L : Nat} {xs : Nat → Int32} {D : va_G} {cy : Nat → ClassId} {hSP hMo : Nat} {σ : Nat → Nat → Int32} {v e k : Nat} {C M : va_W} {H : Heap} {locs : List Loc} {ls : Array Slot} (X : LX p s m c b L xs D cy) (hL : L ≤ 2560) (hi : 5 * k + 5 ≤ L) (I : LI s D cy hSP hMo σ v e k C M H locs) (hl : lv_has ls 4 [(0, .ref b), (1, .ref hSP), (2, .ref hMo), (3, .int (nI (5 * k)))]) (nx : ∀ σ' v' e' C' M' H' locs', LI s D cy hSP hMo σ' v' e' (k + 1) C' M' H' locs' → W p l e0 room_1 s m #[Value.ref b] below meth c H' locs' (56 + 20 * (k + 1)) (30000 + 10529 * (k + 1)) (lw_Z below #[Value.ref b] s) (F0 m 891 ls [])) : W p l e0 room_1 s m #[Value.ref b] below meth c H locs (56 + 20 * k) (30000 + 10529 * k) (lw_Z below #[Value.ref b] s) (F0 m 193 ls []) := by
  obtain ⟨hx, hb, hml, hown, htl, hX, hbl, hK, hN⟩ := X
  obtain ⟨hP, hD, hS, hC, hM⟩ := I
  have hA : ∀ q : Nat, s.heap.size ≤ q → (fun q : Nat => s.heap.size ≤ q) q := fun _ h => h
  have hbA : ¬ (fun q : Nat => s.heap.size ≤ q) b := Nat.not_le.mpr hbl
  refine lv_aload_n hx hb dL_law_193 rfl (lv_at hl 1 rfl) ?_
  refine lv_aload_n hx hb dL_law_194 rfl (lv_at hl 0 rfl) ?_
  refine lv_iload_n hx hb dL_law_195 rfl (lv_at hl 3 rfl) ?_
  refine lv_iconst (v := 1) hx hb dL_law_196 (by decide) ?_
  refine lv_iadd hx hb dL_law_197 ?_
  refine va_sld hx hb hX hbl hbA hS (inL (j := 1) hL hi (by omega)) dL_law_198 ?_
  refine lv_aload_n hx hb dL_law_199 rfl (lv_at hl 0 rfl) ?_
  refine lv_iload_n hx hb dL_law_200 rfl (lv_at hl 3 rfl) ?_
  refine lv_iconst (v := 2) hx hb dL_law_201 (by decide) ?_
  refine lv_iadd hx hb dL_law_202 ?_
  refine va_sld hx hb hX hbl hbA hS (inL (j := 2) hL hi (by omega)) dL_law_203 ?_
  refine ldC_i hP hD hS hA (va_runV (As := [.int (xs (nI (5 * k) + 1).toNatClampNeg), .int (xs (nI (5 * k) + 2).toNatClampNeg)]) (rest := []) ⟨hx, hb, hml, hown, htl⟩ (c_X5_sign l D (xs (nI (5 * k) + 1).toNatClampNeg) (xs (nI (5 * k) + 2).toNatClampNeg) H.size (by omega) hC) (cwV 2 htl (gV mw_10_11 mw_10_12 mw_10_13 mw_1_2 mw_10_14) rfl rfl rfl (by decide +kernel) ⟨Nat.le_of_ble_eq_true rfl, Nat.le_of_ble_eq_true rfl⟩) (lPreC hN hK hP hD hC _) rfl rfl hl.1 rfl (lv_room (Nat.le_of_ble_eq_true rfl)) dL_law_204 ⟨by show 56 + 20 * k + 0 ≤ 600000; omega, by show 30000 + 10529 * k + 0 ≤ 7302250; omega⟩) (fun r C H locs h5 hP hD hS => ?_)
  refine lv_aload_n hx hb dL_law_207 rfl (lv_at hl 2 rfl) ?_
  refine lv_aload_n hx hb dL_law_208 rfl (lv_at hl 0 rfl) ?_
  refine lv_iload_n hx hb dL_law_209 rfl (lv_at hl 3 rfl) ?_
  refine lv_iconst (v := 1) hx hb dL_law_210 (by decide) ?_
  refine lv_iadd hx hb dL_law_211 ?_
  refine va_sld hx hb hX hbl hbA hS (inL (j := 1) hL hi (by omega)) dL_law_212 ?_
  refine lv_aload_n hx hb dL_law_213 rfl (lv_at hl 0 rfl) ?_
  refine lv_iload_n hx hb dL_law_214 rfl (lv_at hl 3 rfl) ?_
  refine lv_iconst (v := 2) hx hb dL_law_215 (by decide) ?_
  refine lv_iadd hx hb dL_law_216 ?_
  refine va_sld hx hb hX hbl hbA hS (inL (j := 2) hL hi (by omega)) dL_law_217 ?_
  refine ldM_i hP hD hS hA (va_runV (As := [.int (xs (nI (5 * k) + 1).toNatClampNeg), .int (xs (nI (5 * k) + 2).toNatClampNeg)]) (rest := [.int r]) ⟨hx, hb, hml, hown, htl⟩ (c_X6_sign l D (xs (nI (5 * k) + 1).toNatClampNeg) (xs (nI (5 * k) + 2).toNatClampNeg) H.size hM) (cwV 2 htl (gV mw_10_20 mw_10_21 mw_10_22 mw_1_5 mw_10_23) rfl rfl rfl (by decide +kernel) ⟨Nat.le_of_ble_eq_true rfl, Nat.le_of_ble_eq_true rfl⟩) (lPreM hN hK hP hD hM _) rfl rfl hl.1 rfl (lv_room (Nat.le_of_ble_eq_true rfl)) dL_law_218 ⟨by show 56 + 20 * k + 0 + 0 ≤ 600000; omega, by show 30000 + 10529 * k + 0 + 0 ≤ 7302250; omega⟩) (fun r2 M H locs h6 hP hD hS => ?_)
  have heq := h5.1.trans h6.1.symm
  refine lv_icmp_eq (tgt := 891) hx hb dL_law_221 (by decide) (fun c0 => ?_) (fun c0 => ?_)
  · refine W.widen (k := 56 + 20 * (k + 1)) (n := 30000 + 10529 * (k + 1)) (by omega) (by omega) ?_
    exact nx _ _ _ _ _ _ _ ⟨hP, hD, hS, h5.2, h6.2⟩
  · exact absurd heq c0
set_option maxHeartbeats 4000000 in
set_option maxRecDepth 100000 in
theorem lc_weigh {p : Program} {l : Launch} {e0 : Env} {s : State} {m : MethodId} {below : List Frame} {meth : Method} {c : Code} {b L : Nat} {xs : Nat → Int32} {D : va_G} {cy : Nat → ClassId} {hSP hMo : Nat} {σ : Nat → Nat → Int32} {v e k : Nat} {C M : va_W} {H : Heap} {locs : List Loc} {ls : Array Slot} (X : LX p s m c b L xs D cy) (hL : L ≤ 2560) (hi : 5 * k + 5 ≤ L) (I : LI s D cy hSP hMo σ v e k C M H locs) (hl : lv_has ls 4 [(0, .ref b), (1, .ref hSP), (2, .ref hMo), (3, .int (nI (5 * k)))]) (nx : ∀ σ' v' e' C' M' H' locs', LI s D cy hSP hMo σ' v' e' (k + 1) C' M' H' locs' → W p l e0 room_1 s m #[Value.ref b] below meth c H' locs' (56 + 20 * (k + 1)) (30000 + 10529 * (k + 1)) (lw_Z below #[Value.ref b] s) (F0 m 891 ls [])) : W p l e0 room_1 s m #[Value.ref b] below meth c H locs (56 + 20 * k) (30000 + 10529 * k) (lw_Z below #[Value.ref b] s) (F0 m 226 ls []) := by
  obtain ⟨hx, hb, hml, hown, htl, hX, hbl, hK, hN⟩ := X
  obtain ⟨hP, hD, hS, hC, hM⟩ := I
  have hA : ∀ q : Nat, s.heap.size ≤ q → (fun q : Nat => s.heap.size ≤ q) q := fun _ h => h
  have hbA : ¬ (fun q : Nat => s.heap.size ≤ q) b := Nat.not_le.mpr hbl
  refine lv_aload_n hx hb dL_law_226 rfl (lv_at hl 1 rfl) ?_
  refine lv_aload_n hx hb dL_law_227 rfl (lv_at hl 0 rfl) ?_
  refine lv_iload_n hx hb dL_law_228 rfl (lv_at hl 3 rfl) ?_
  refine lv_iconst (v := 1) hx hb dL_law_229 (by decide) ?_
  refine lv_iadd hx hb dL_law_230 ?_
  refine va_sld hx hb hX hbl hbA hS (inL (j := 1) hL hi (by omega)) dL_law_231 ?_
  refine lv_aload_n hx hb dL_law_232 rfl (lv_at hl 0 rfl) ?_
  refine lv_iload_n hx hb dL_law_233 rfl (lv_at hl 3 rfl) ?_
  refine lv_iconst (v := 2) hx hb dL_law_234 (by decide) ?_
  refine lv_iadd hx hb dL_law_235 ?_
  refine va_sld hx hb hX hbl hbA hS (inL (j := 2) hL hi (by omega)) dL_law_236 ?_
  refine ldC_i hP hD hS hA (va_runV (As := [.int (xs (nI (5 * k) + 1).toNatClampNeg), .int (xs (nI (5 * k) + 2).toNatClampNeg)]) (rest := []) ⟨hx, hb, hml, hown, htl⟩ (c_X5_weigh l D (xs (nI (5 * k) + 1).toNatClampNeg) (xs (nI (5 * k) + 2).toNatClampNeg) H.size (by omega) hC) (cwV 2 htl (gV mw_11_4 mw_11_5 mw_11_6 mw_1_2 mw_11_7) rfl rfl rfl (by decide +kernel) ⟨Nat.le_of_ble_eq_true rfl, Nat.le_of_ble_eq_true rfl⟩) (lPreC hN hK hP hD hC _) rfl rfl hl.1 rfl (lv_room (Nat.le_of_ble_eq_true rfl)) dL_law_237 ⟨by show 56 + 20 * k + 0 ≤ 600000; omega, by show 30000 + 10529 * k + 0 ≤ 7302250; omega⟩) (fun r C H locs h5 hP hD hS => ?_)
  refine lv_aload_n hx hb dL_law_240 rfl (lv_at hl 2 rfl) ?_
  refine lv_aload_n hx hb dL_law_241 rfl (lv_at hl 0 rfl) ?_
  refine lv_iload_n hx hb dL_law_242 rfl (lv_at hl 3 rfl) ?_
  refine lv_iconst (v := 1) hx hb dL_law_243 (by decide) ?_
  refine lv_iadd hx hb dL_law_244 ?_
  refine va_sld hx hb hX hbl hbA hS (inL (j := 1) hL hi (by omega)) dL_law_245 ?_
  refine lv_aload_n hx hb dL_law_246 rfl (lv_at hl 0 rfl) ?_
  refine lv_iload_n hx hb dL_law_247 rfl (lv_at hl 3 rfl) ?_
  refine lv_iconst (v := 2) hx hb dL_law_248 (by decide) ?_
  refine lv_iadd hx hb dL_law_249 ?_
  refine va_sld hx hb hX hbl hbA hS (inL (j := 2) hL hi (by omega)) dL_law_250 ?_
  refine ldM_i hP hD hS hA (va_runV (As := [.int (xs (nI (5 * k) + 1).toNatClampNeg), .int (xs (nI (5 * k) + 2).toNatClampNeg)]) (rest := [.int r]) ⟨hx, hb, hml, hown, htl⟩ (c_X6_weigh l D (xs (nI (5 * k) + 1).toNatClampNeg) (xs (nI (5 * k) + 2).toNatClampNeg) H.size hM) (cwV 2 htl (gV mw_11_9 mw_11_10 mw_11_11 mw_1_5 mw_11_12) rfl rfl rfl (by decide +kernel) ⟨Nat.le_of_ble_eq_true rfl, Nat.le_of_ble_eq_true rfl⟩) (lPreM hN hK hP hD hM _) rfl rfl hl.1 rfl (lv_room (Nat.le_of_ble_eq_true rfl)) dL_law_251 ⟨by show 56 + 20 * k + 0 + 0 ≤ 600000; omega, by show 30000 + 10529 * k + 0 + 0 ≤ 7302250; omega⟩) (fun r2 M H locs h6 hP hD hS => ?_)
  have heq := h5.1.trans h6.1.symm
  refine lv_icmp_eq (tgt := 891) hx hb dL_law_254 (by decide) (fun c0 => ?_) (fun c0 => ?_)
  · refine W.widen (k := 56 + 20 * (k + 1)) (n := 30000 + 10529 * (k + 1)) (by omega) (by omega) ?_
    exact nx _ _ _ _ _ _ _ ⟨hP, hD, hS, h5.2, h6.2⟩
  · exact absurd heq c0
set_option maxHeartbeats 4000000 in
set_option maxRecDepth 100000 in
theorem lc_drop {p : Program} {l : Launch} {e0 : Env} {s : State} {m : MethodId} {below : List Frame} {meth : Method} {c : Code} {b L : Nat} {xs : Nat → Int32} {D : va_G} {cy : Nat → ClassId} {hSP hMo : Nat} {σ : Nat → Nat → Int32} {v e k : Nat} {C M : va_W} {H : Heap} {locs : List Loc} {ls : Array Slot} (X : LX p s m c b L xs D cy) (hL : L ≤ 2560) (hi : 5 * k + 5 ≤ L) (I : LI s D cy hSP hMo σ v e k C M H locs) (hl : lv_has ls 4 [(0, .ref b), (1, .ref hSP), (2, .ref hMo), (3, .int (nI (5 * k)))]) (nx : ∀ σ' v' e' C' M' H' locs', LI s D cy hSP hMo σ' v' e' (k + 1) C' M' H' locs' → W p l e0 room_1 s m #[Value.ref b] below meth c H' locs' (56 + 20 * (k + 1)) (30000 + 10529 * (k + 1)) (lw_Z below #[Value.ref b] s) (F0 m 891 ls [])) : W p l e0 room_1 s m #[Value.ref b] below meth c H locs (56 + 20 * k) (30000 + 10529 * k) (lw_Z below #[Value.ref b] s) (F0 m 259 ls []) := by
  obtain ⟨hx, hb, hml, hown, htl, hX, hbl, hK, hN⟩ := X
  obtain ⟨hP, hD, hS, hC, hM⟩ := I
  have hA : ∀ q : Nat, s.heap.size ≤ q → (fun q : Nat => s.heap.size ≤ q) q := fun _ h => h
  have hbA : ¬ (fun q : Nat => s.heap.size ≤ q) b := Nat.not_le.mpr hbl
  refine lv_aload_n hx hb dL_law_259 rfl (lv_at hl 1 rfl) ?_
  refine lv_aload_n hx hb dL_law_260 rfl (lv_at hl 0 rfl) ?_
  refine lv_iload_n hx hb dL_law_261 rfl (lv_at hl 3 rfl) ?_
  refine lv_iconst (v := 1) hx hb dL_law_262 (by decide) ?_
  refine lv_iadd hx hb dL_law_263 ?_
  refine va_sld hx hb hX hbl hbA hS (inL (j := 1) hL hi (by omega)) dL_law_264 ?_
  refine ldC_i hP hD hS hA (va_runV (As := [.int (xs (nI (5 * k) + 1).toNatClampNeg)]) (rest := []) ⟨hx, hb, hml, hown, htl⟩ (c_X5_drop l D (xs (nI (5 * k) + 1).toNatClampNeg) H.size (by omega) hC) (cwV 1 htl (gV mw_11_13 mw_11_14 mw_11_15 mw_1_2 mw_11_16) rfl rfl rfl (by decide +kernel) ⟨Nat.le_of_ble_eq_true rfl, Nat.le_of_ble_eq_true rfl⟩) (lPreC hN hK hP hD hC _) rfl rfl hl.1 rfl (lv_room (Nat.le_of_ble_eq_true rfl)) dL_law_265 ⟨by show 56 + 20 * k + 0 ≤ 600000; omega, by show 30000 + 10529 * k + 0 ≤ 7302250; omega⟩) (fun r C H locs h5 hP hD hS => ?_)
  refine lv_aload_n hx hb dL_law_268 rfl (lv_at hl 2 rfl) ?_
  refine lv_aload_n hx hb dL_law_269 rfl (lv_at hl 0 rfl) ?_
  refine lv_iload_n hx hb dL_law_270 rfl (lv_at hl 3 rfl) ?_
  refine lv_iconst (v := 1) hx hb dL_law_271 (by decide) ?_
  refine lv_iadd hx hb dL_law_272 ?_
  refine va_sld hx hb hX hbl hbA hS (inL (j := 1) hL hi (by omega)) dL_law_273 ?_
  refine ldM_i hP hD hS hA (va_runV (As := [.int (xs (nI (5 * k) + 1).toNatClampNeg)]) (rest := [.int r]) ⟨hx, hb, hml, hown, htl⟩ (c_X6_drop l D (xs (nI (5 * k) + 1).toNatClampNeg) H.size hM) (cwV 1 htl (gV mw_11_21 mw_11_22 mw_11_23 mw_1_5 mw_12_0) rfl rfl rfl (by decide +kernel) ⟨Nat.le_of_ble_eq_true rfl, Nat.le_of_ble_eq_true rfl⟩) (lPreM hN hK hP hD hM _) rfl rfl hl.1 rfl (lv_room (Nat.le_of_ble_eq_true rfl)) dL_law_274 ⟨by show 56 + 20 * k + 0 + 0 ≤ 600000; omega, by show 30000 + 10529 * k + 0 + 0 ≤ 7302250; omega⟩) (fun r2 M H locs h6 hP hD hS => ?_)
  have heq := h5.1.trans h6.1.symm
  refine lv_icmp_eq (tgt := 891) hx hb dL_law_277 (by decide) (fun c0 => ?_) (fun c0 => ?_)
  · refine W.widen (k := 56 + 20 * (k + 1)) (n := 30000 + 10529 * (k + 1)) (by omega) (by omega) ?_
    exact nx _ _ _ _ _ _ _ ⟨hP, hD, hS, h5.2, h6.2⟩
  · exact absurd heq c0
set_option maxHeartbeats 4000000 in
set_option maxRecDepth 100000 in
theorem lc_turn {p : Program} {l : Launch} {e0 : Env} {s : State} {m : MethodId} {below : List Frame} {meth : Method} {c : Code} {b L : Nat} {xs : Nat → Int32} {D : va_G} {cy : Nat → ClassId} {hSP hMo : Nat} {σ : Nat → Nat → Int32} {v e k : Nat} {C M : va_W} {H : Heap} {locs : List Loc} {ls : Array Slot} (X : LX p s m c b L xs D cy) (hL : L ≤ 2560) (hi : 5 * k + 5 ≤ L) (I : LI s D cy hSP hMo σ v e k C M H locs) (hl : lv_has ls 4 [(0, .ref b), (1, .ref hSP), (2, .ref hMo), (3, .int (nI (5 * k)))]) (nx : ∀ σ' v' e' C' M' H' locs', LI s D cy hSP hMo σ' v' e' (k + 1) C' M' H' locs' → W p l e0 room_1 s m #[Value.ref b] below meth c H' locs' (56 + 20 * (k + 1)) (30000 + 10529 * (k + 1)) (lw_Z below #[Value.ref b] s) (F0 m 891 ls [])) : W p l e0 room_1 s m #[Value.ref b] below meth c H locs (56 + 20 * k) (30000 + 10529 * k) (lw_Z below #[Value.ref b] s) (F0 m 282 ls []) := by
  obtain ⟨hx, hb, hml, hown, htl, hX, hbl, hK, hN⟩ := X
  obtain ⟨hP, hD, hS, hC, hM⟩ := I
  have hA : ∀ q : Nat, s.heap.size ≤ q → (fun q : Nat => s.heap.size ≤ q) q := fun _ h => h
  have hbA : ¬ (fun q : Nat => s.heap.size ≤ q) b := Nat.not_le.mpr hbl
  refine lv_aload_n hx hb dL_law_282 rfl (lv_at hl 1 rfl) ?_
  refine lv_aload_n hx hb dL_law_283 rfl (lv_at hl 0 rfl) ?_
  refine lv_iload_n hx hb dL_law_284 rfl (lv_at hl 3 rfl) ?_
  refine lv_iconst (v := 1) hx hb dL_law_285 (by decide) ?_
  refine lv_iadd hx hb dL_law_286 ?_
  refine va_sld hx hb hX hbl hbA hS (inL (j := 1) hL hi (by omega)) dL_law_287 ?_
  refine ldC_i hP hD hS hA (va_runV (As := [.int (xs (nI (5 * k) + 1).toNatClampNeg)]) (rest := []) ⟨hx, hb, hml, hown, htl⟩ (c_X5_turn l D (xs (nI (5 * k) + 1).toNatClampNeg) H.size (by omega) hC) (cwV 1 htl (gV mw_12_5 mw_12_6 mw_12_7 mw_1_2 mw_12_8) rfl rfl rfl (by decide +kernel) ⟨Nat.le_of_ble_eq_true rfl, Nat.le_of_ble_eq_true rfl⟩) (lPreC hN hK hP hD hC _) rfl rfl hl.1 rfl (lv_room (Nat.le_of_ble_eq_true rfl)) dL_law_288 ⟨by show 56 + 20 * k + 0 ≤ 600000; omega, by show 30000 + 10529 * k + 0 ≤ 7302250; omega⟩) (fun r C H locs h5 hP hD hS => ?_)
  refine lv_aload_n hx hb dL_law_291 rfl (lv_at hl 2 rfl) ?_
  refine lv_aload_n hx hb dL_law_292 rfl (lv_at hl 0 rfl) ?_
  refine lv_iload_n hx hb dL_law_293 rfl (lv_at hl 3 rfl) ?_
  refine lv_iconst (v := 1) hx hb dL_law_294 (by decide) ?_
  refine lv_iadd hx hb dL_law_295 ?_
  refine va_sld hx hb hX hbl hbA hS (inL (j := 1) hL hi (by omega)) dL_law_296 ?_
  refine ldM_i hP hD hS hA (va_runV (As := [.int (xs (nI (5 * k) + 1).toNatClampNeg)]) (rest := [.int r]) ⟨hx, hb, hml, hown, htl⟩ (c_X6_turn l D (xs (nI (5 * k) + 1).toNatClampNeg) H.size hM) (cwV 1 htl (gV mw_12_17 mw_12_18 mw_12_19 mw_1_5 mw_12_20) rfl rfl rfl (by decide +kernel) ⟨Nat.le_of_ble_eq_true rfl, Nat.le_of_ble_eq_true rfl⟩) (lPreM hN hK hP hD hM _) rfl rfl hl.1 rfl (lv_room (Nat.le_of_ble_eq_true rfl)) dL_law_297 ⟨by show 56 + 20 * k + 0 + 0 ≤ 600000; omega, by show 30000 + 10529 * k + 0 + 0 ≤ 7302250; omega⟩) (fun r2 M H locs h6 hP hD hS => ?_)
  have heq := h5.1.trans h6.1.symm
  refine lv_icmp_eq (tgt := 891) hx hb dL_law_300 (by decide) (fun c0 => ?_) (fun c0 => ?_)
  · refine W.widen (k := 56 + 20 * (k + 1)) (n := 30000 + 10529 * (k + 1)) (by omega) (by omega) ?_
    exact nx _ _ _ _ _ _ _ ⟨hP, hD, hS, h5.2, h6.2⟩
  · exact absurd heq c0
set_option maxHeartbeats 4000000 in
set_option maxRecDepth 100000 in
theorem lc_ofStation {p : Program} {l : Launch} {e0 : Env} {s : State} {m : MethodId} {below : List Frame} {meth : Method} {c : Code} {b L : Nat} {xs : Nat → Int32} {D : va_G} {cy : Nat → ClassId} {hSP hMo : Nat} {σ : Nat → Nat → Int32} {v e k : Nat} {C M : va_W} {H : Heap} {locs : List Loc} {ls : Array Slot} (X : LX p s m c b L xs D cy) (hL : L ≤ 2560) (hi : 5 * k + 5 ≤ L) (I : LI s D cy hSP hMo σ v e k C M H locs) (hl : lv_has ls 4 [(0, .ref b), (1, .ref hSP), (2, .ref hMo), (3, .int (nI (5 * k)))]) (nx : ∀ σ' v' e' C' M' H' locs', LI s D cy hSP hMo σ' v' e' (k + 1) C' M' H' locs' → W p l e0 room_1 s m #[Value.ref b] below meth c H' locs' (56 + 20 * (k + 1)) (30000 + 10529 * (k + 1)) (lw_Z below #[Value.ref b] s) (F0 m 891 ls [])) : W p l e0 room_1 s m #[Value.ref b] below meth c H locs (56 + 20 * k) (30000 + 10529 * k) (lw_Z below #[Value.ref b] s) (F0 m 305 ls []) := by
  obtain ⟨hx, hb, hml, hown, htl, hX, hbl, hK, hN⟩ := X
  obtain ⟨hP, hD, hS, hC, hM⟩ := I
  have hA : ∀ q : Nat, s.heap.size ≤ q → (fun q : Nat => s.heap.size ≤ q) q := fun _ h => h
  have hbA : ¬ (fun q : Nat => s.heap.size ≤ q) b := Nat.not_le.mpr hbl
  refine lv_aload_n hx hb dL_law_305 rfl (lv_at hl 1 rfl) ?_
  refine lv_aload_n hx hb dL_law_306 rfl (lv_at hl 0 rfl) ?_
  refine lv_iload_n hx hb dL_law_307 rfl (lv_at hl 3 rfl) ?_
  refine lv_iconst (v := 1) hx hb dL_law_308 (by decide) ?_
  refine lv_iadd hx hb dL_law_309 ?_
  refine va_sld hx hb hX hbl hbA hS (inL (j := 1) hL hi (by omega)) dL_law_310 ?_
  refine lv_aload_n hx hb dL_law_311 rfl (lv_at hl 0 rfl) ?_
  refine lv_iload_n hx hb dL_law_312 rfl (lv_at hl 3 rfl) ?_
  refine lv_iconst (v := 2) hx hb dL_law_313 (by decide) ?_
  refine lv_iadd hx hb dL_law_314 ?_
  refine va_sld hx hb hX hbl hbA hS (inL (j := 2) hL hi (by omega)) dL_law_315 ?_
  refine ldC_i hP hD hS hA (va_runV (As := [.int (xs (nI (5 * k) + 1).toNatClampNeg), .int (xs (nI (5 * k) + 2).toNatClampNeg)]) (rest := []) ⟨hx, hb, hml, hown, htl⟩ (c_X5_ofStation l D (xs (nI (5 * k) + 1).toNatClampNeg) (xs (nI (5 * k) + 2).toNatClampNeg) H.size (by omega) hC) (cwV 2 htl (gV mw_13_1 mw_13_2 mw_13_3 mw_1_2 mw_13_4) rfl rfl rfl (by decide +kernel) ⟨Nat.le_of_ble_eq_true rfl, Nat.le_of_ble_eq_true rfl⟩) (lPreC hN hK hP hD hC _) rfl rfl hl.1 rfl (lv_room (Nat.le_of_ble_eq_true rfl)) dL_law_316 ⟨by show 56 + 20 * k + 0 ≤ 600000; omega, by show 30000 + 10529 * k + 0 ≤ 7302250; omega⟩) (fun r C H locs h5 hP hD hS => ?_)
  refine lv_aload_n hx hb dL_law_319 rfl (lv_at hl 2 rfl) ?_
  refine lv_aload_n hx hb dL_law_320 rfl (lv_at hl 0 rfl) ?_
  refine lv_iload_n hx hb dL_law_321 rfl (lv_at hl 3 rfl) ?_
  refine lv_iconst (v := 1) hx hb dL_law_322 (by decide) ?_
  refine lv_iadd hx hb dL_law_323 ?_
  refine va_sld hx hb hX hbl hbA hS (inL (j := 1) hL hi (by omega)) dL_law_324 ?_
  refine lv_aload_n hx hb dL_law_325 rfl (lv_at hl 0 rfl) ?_
  refine lv_iload_n hx hb dL_law_326 rfl (lv_at hl 3 rfl) ?_
  refine lv_iconst (v := 2) hx hb dL_law_327 (by decide) ?_
  refine lv_iadd hx hb dL_law_328 ?_
  refine va_sld hx hb hX hbl hbA hS (inL (j := 2) hL hi (by omega)) dL_law_329 ?_
  refine ldM_i hP hD hS hA (va_runV (As := [.int (xs (nI (5 * k) + 1).toNatClampNeg), .int (xs (nI (5 * k) + 2).toNatClampNeg)]) (rest := [.int r]) ⟨hx, hb, hml, hown, htl⟩ (c_X6_ofStation l D (xs (nI (5 * k) + 1).toNatClampNeg) (xs (nI (5 * k) + 2).toNatClampNeg) H.size hM) (cwV 2 htl (gV mw_16_10 mw_16_11 mw_16_12 mw_1_5 mw_16_13) rfl rfl rfl (by decide +kernel) ⟨Nat.le_of_ble_eq_true rfl, Nat.le_of_ble_eq_true rfl⟩) (lPreM hN hK hP hD hM _) rfl rfl hl.1 rfl (lv_room (Nat.le_of_ble_eq_true rfl)) dL_law_330 ⟨by show 56 + 20 * k + 0 + 0 ≤ 600000; omega, by show 30000 + 10529 * k + 0 + 0 ≤ 7302250; omega⟩) (fun r2 M H locs h6 hP hD hS => ?_)
  have heq := h5.1.trans h6.1.symm
  refine lv_icmp_eq (tgt := 891) hx hb dL_law_333 (by decide) (fun c0 => ?_) (fun c0 => ?_)
  · refine W.widen (k := 56 + 20 * (k + 1)) (n := 30000 + 10529 * (k + 1)) (by omega) (by omega) ?_
    exact nx _ _ _ _ _ _ _ ⟨hP, hD, hS, h5.2, h6.2⟩
  · exact absurd heq c0
set_option maxHeartbeats 4000000 in
set_option maxRecDepth 100000 in
theorem lc_size {p : Program} {l : Launch} {e0 : Env} {s : State} {m : MethodId} {below : List Frame} {meth : Method} {c : Code} {b L : Nat} {xs : Nat → Int32} {D : va_G} {cy : Nat → ClassId} {hSP hMo : Nat} {σ : Nat → Nat → Int32} {v e k : Nat} {C M : va_W} {H : Heap} {locs : List Loc} {ls : Array Slot} (X : LX p s m c b L xs D cy) (hL : L ≤ 2560) (hi : 5 * k + 5 ≤ L) (I : LI s D cy hSP hMo σ v e k C M H locs) (hl : lv_has ls 4 [(0, .ref b), (1, .ref hSP), (2, .ref hMo), (3, .int (nI (5 * k)))]) (nx : ∀ σ' v' e' C' M' H' locs', LI s D cy hSP hMo σ' v' e' (k + 1) C' M' H' locs' → W p l e0 room_1 s m #[Value.ref b] below meth c H' locs' (56 + 20 * (k + 1)) (30000 + 10529 * (k + 1)) (lw_Z below #[Value.ref b] s) (F0 m 891 ls [])) : W p l e0 room_1 s m #[Value.ref b] below meth c H locs (56 + 20 * k) (30000 + 10529 * k) (lw_Z below #[Value.ref b] s) (F0 m 338 ls []) := by
  obtain ⟨hx, hb, hml, hown, htl, hX, hbl, hK, hN⟩ := X
  obtain ⟨hP, hD, hS, hC, hM⟩ := I
  have hA : ∀ q : Nat, s.heap.size ≤ q → (fun q : Nat => s.heap.size ≤ q) q := fun _ h => h
  have hbA : ¬ (fun q : Nat => s.heap.size ≤ q) b := Nat.not_le.mpr hbl
  refine lv_aload_n hx hb dL_law_338 rfl (lv_at hl 1 rfl) ?_
  refine lv_aload_n hx hb dL_law_339 rfl (lv_at hl 0 rfl) ?_
  refine lv_iload_n hx hb dL_law_340 rfl (lv_at hl 3 rfl) ?_
  refine lv_iconst (v := 1) hx hb dL_law_341 (by decide) ?_
  refine lv_iadd hx hb dL_law_342 ?_
  refine va_sld hx hb hX hbl hbA hS (inL (j := 1) hL hi (by omega)) dL_law_343 ?_
  obtain ⟨mc, ms, hmc, hms, hmet⟩ := c_X5_size l D (xs (nI (5 * k) + 1).toNatClampNeg) H.size (by omega) hC
  refine ldC_i hP hD hS hA (va_runV (As := [.int (xs (nI (5 * k) + 1).toNatClampNeg)]) (rest := []) ⟨hx, hb, hml, hown, htl⟩ hmet (cwV 1 htl (gV mw_18_5 mw_18_6 mw_18_7 mw_1_2 mw_18_8) rfl rfl rfl (by decide +kernel) ⟨Nat.le_of_ble_eq_true rfl, Nat.le_of_ble_eq_true rfl⟩) (lPreC hN hK hP hD hC _) rfl rfl hl.1 rfl (lv_room (Nat.le_of_ble_eq_true rfl)) dL_law_344 ⟨by show 56 + 20 * k + mc ≤ 600000; omega, by show 30000 + 10529 * k + ms ≤ 7302250; omega⟩) (fun r C H locs h5 hP hD hS => ?_)
  refine lv_aload_n hx hb dL_law_347 rfl (lv_at hl 2 rfl) ?_
  refine lv_aload_n hx hb dL_law_348 rfl (lv_at hl 0 rfl) ?_
  refine lv_iload_n hx hb dL_law_349 rfl (lv_at hl 3 rfl) ?_
  refine lv_iconst (v := 1) hx hb dL_law_350 (by decide) ?_
  refine lv_iadd hx hb dL_law_351 ?_
  refine va_sld hx hb hX hbl hbA hS (inL (j := 1) hL hi (by omega)) dL_law_352 ?_
  refine ldM_i hP hD hS hA (va_runV (As := [.int (xs (nI (5 * k) + 1).toNatClampNeg)]) (rest := [.int r]) ⟨hx, hb, hml, hown, htl⟩ (c_X6_size l D (xs (nI (5 * k) + 1).toNatClampNeg) H.size hM) (cwV 1 htl (gV mw_18_13 mw_18_14 mw_18_15 mw_1_5 mw_18_16) rfl rfl rfl (by decide +kernel) ⟨Nat.le_of_ble_eq_true rfl, Nat.le_of_ble_eq_true rfl⟩) (lPreM hN hK hP hD hM _) rfl rfl hl.1 rfl (lv_room (Nat.le_of_ble_eq_true rfl)) dL_law_353 ⟨by show 56 + 20 * k + mc + 0 ≤ 600000; omega, by show 30000 + 10529 * k + ms + 0 ≤ 7302250; omega⟩) (fun r2 M H locs h6 hP hD hS => ?_)
  have heq := h5.1.trans h6.1.symm
  refine lv_icmp_eq (tgt := 891) hx hb dL_law_356 (by decide) (fun c0 => ?_) (fun c0 => ?_)
  · refine W.widen (k := 56 + 20 * (k + 1)) (n := 30000 + 10529 * (k + 1)) (by omega) (by omega) ?_
    exact nx _ _ _ _ _ _ _ ⟨hP, hD, hS, h5.2, h6.2⟩
  · exact absurd heq c0
set_option maxHeartbeats 4000000 in
set_option maxRecDepth 100000 in
theorem lc_extra {p : Program} {l : Launch} {e0 : Env} {s : State} {m : MethodId} {below : List Frame} {meth : Method} {c : Code} {b L : Nat} {xs : Nat → Int32} {D : va_G} {cy : Nat → ClassId} {hSP hMo : Nat} {σ : Nat → Nat → Int32} {v e k : Nat} {C M : va_W} {H : Heap} {locs : List Loc} {ls : Array Slot} (X : LX p s m c b L xs D cy) (hL : L ≤ 2560) (hi : 5 * k + 5 ≤ L) (I : LI s D cy hSP hMo σ v e k C M H locs) (hl : lv_has ls 4 [(0, .ref b), (1, .ref hSP), (2, .ref hMo), (3, .int (nI (5 * k)))]) (nx : ∀ σ' v' e' C' M' H' locs', LI s D cy hSP hMo σ' v' e' (k + 1) C' M' H' locs' → W p l e0 room_1 s m #[Value.ref b] below meth c H' locs' (56 + 20 * (k + 1)) (30000 + 10529 * (k + 1)) (lw_Z below #[Value.ref b] s) (F0 m 891 ls [])) : W p l e0 room_1 s m #[Value.ref b] below meth c H locs (56 + 20 * k) (30000 + 10529 * k) (lw_Z below #[Value.ref b] s) (F0 m 361 ls []) := by
  obtain ⟨hx, hb, hml, hown, htl, hX, hbl, hK, hN⟩ := X
  obtain ⟨hP, hD, hS, hC, hM⟩ := I
  have hA : ∀ q : Nat, s.heap.size ≤ q → (fun q : Nat => s.heap.size ≤ q) q := fun _ h => h
  have hbA : ¬ (fun q : Nat => s.heap.size ≤ q) b := Nat.not_le.mpr hbl
  refine lv_aload_n hx hb dL_law_361 rfl (lv_at hl 1 rfl) ?_
  refine lv_aload_n hx hb dL_law_362 rfl (lv_at hl 0 rfl) ?_
  refine lv_iload_n hx hb dL_law_363 rfl (lv_at hl 3 rfl) ?_
  refine lv_iconst (v := 1) hx hb dL_law_364 (by decide) ?_
  refine lv_iadd hx hb dL_law_365 ?_
  refine va_sld hx hb hX hbl hbA hS (inL (j := 1) hL hi (by omega)) dL_law_366 ?_
  refine ldC_i hP hD hS hA (va_runV (As := [.int (xs (nI (5 * k) + 1).toNatClampNeg)]) (rest := []) ⟨hx, hb, hml, hown, htl⟩ (c_X5_extra l D (xs (nI (5 * k) + 1).toNatClampNeg) H.size (by omega) hC) (cwV 1 htl (gV mw_18_17 mw_18_18 mw_18_19 mw_1_2 mw_18_20) rfl rfl rfl (by decide +kernel) ⟨Nat.le_of_ble_eq_true rfl, Nat.le_of_ble_eq_true rfl⟩) (lPreC hN hK hP hD hC _) rfl rfl hl.1 rfl (lv_room (Nat.le_of_ble_eq_true rfl)) dL_law_367 ⟨by show 56 + 20 * k + 0 ≤ 600000; omega, by show 30000 + 10529 * k + 0 ≤ 7302250; omega⟩) (fun r C H locs h5 hP hD hS => ?_)
  refine lv_aload_n hx hb dL_law_370 rfl (lv_at hl 2 rfl) ?_
  refine lv_aload_n hx hb dL_law_371 rfl (lv_at hl 0 rfl) ?_
  refine lv_iload_n hx hb dL_law_372 rfl (lv_at hl 3 rfl) ?_
  refine lv_iconst (v := 1) hx hb dL_law_373 (by decide) ?_
  refine lv_iadd hx hb dL_law_374 ?_
  refine va_sld hx hb hX hbl hbA hS (inL (j := 1) hL hi (by omega)) dL_law_375 ?_
  refine ldM_i hP hD hS hA (va_runV (As := [.int (xs (nI (5 * k) + 1).toNatClampNeg)]) (rest := [.int r]) ⟨hx, hb, hml, hown, htl⟩ (c_X6_extra l D (xs (nI (5 * k) + 1).toNatClampNeg) H.size hM) (cwV 1 htl (gV mw_18_21 mw_18_22 mw_18_23 mw_1_5 mw_19_0) rfl rfl rfl (by decide +kernel) ⟨Nat.le_of_ble_eq_true rfl, Nat.le_of_ble_eq_true rfl⟩) (lPreM hN hK hP hD hM _) rfl rfl hl.1 rfl (lv_room (Nat.le_of_ble_eq_true rfl)) dL_law_376 ⟨by show 56 + 20 * k + 0 + 0 ≤ 600000; omega, by show 30000 + 10529 * k + 0 + 0 ≤ 7302250; omega⟩) (fun r2 M H locs h6 hP hD hS => ?_)
  have heq := h5.1.trans h6.1.symm
  refine lv_icmp_eq (tgt := 891) hx hb dL_law_379 (by decide) (fun c0 => ?_) (fun c0 => ?_)
  · refine W.widen (k := 56 + 20 * (k + 1)) (n := 30000 + 10529 * (k + 1)) (by omega) (by omega) ?_
    exact nx _ _ _ _ _ _ _ ⟨hP, hD, hS, h5.2, h6.2⟩
  · exact absurd heq c0
set_option maxHeartbeats 4000000 in
set_option maxRecDepth 100000 in
theorem lc_pole {p : Program} {l : Launch} {e0 : Env} {s : State} {m : MethodId} {below : List Frame} {meth : Method} {c : Code} {b L : Nat} {xs : Nat → Int32} {D : va_G} {cy : Nat → ClassId} {hSP hMo : Nat} {σ : Nat → Nat → Int32} {v e k : Nat} {C M : va_W} {H : Heap} {locs : List Loc} {ls : Array Slot} (X : LX p s m c b L xs D cy) (hL : L ≤ 2560) (hi : 5 * k + 5 ≤ L) (I : LI s D cy hSP hMo σ v e k C M H locs) (hl : lv_has ls 4 [(0, .ref b), (1, .ref hSP), (2, .ref hMo), (3, .int (nI (5 * k)))]) (nx : ∀ σ' v' e' C' M' H' locs', LI s D cy hSP hMo σ' v' e' (k + 1) C' M' H' locs' → W p l e0 room_1 s m #[Value.ref b] below meth c H' locs' (56 + 20 * (k + 1)) (30000 + 10529 * (k + 1)) (lw_Z below #[Value.ref b] s) (F0 m 891 ls [])) : W p l e0 room_1 s m #[Value.ref b] below meth c H locs (56 + 20 * k) (30000 + 10529 * k) (lw_Z below #[Value.ref b] s) (F0 m 384 ls []) := by
  obtain ⟨hx, hb, hml, hown, htl, hX, hbl, hK, hN⟩ := X
  obtain ⟨hP, hD, hS, hC, hM⟩ := I
  have hA : ∀ q : Nat, s.heap.size ≤ q → (fun q : Nat => s.heap.size ≤ q) q := fun _ h => h
  have hbA : ¬ (fun q : Nat => s.heap.size ≤ q) b := Nat.not_le.mpr hbl
  refine lv_aload_n hx hb dL_law_384 rfl (lv_at hl 1 rfl) ?_
  refine lv_aload_n hx hb dL_law_385 rfl (lv_at hl 0 rfl) ?_
  refine lv_iload_n hx hb dL_law_386 rfl (lv_at hl 3 rfl) ?_
  refine lv_iconst (v := 1) hx hb dL_law_387 (by decide) ?_
  refine lv_iadd hx hb dL_law_388 ?_
  refine va_sld hx hb hX hbl hbA hS (inL (j := 1) hL hi (by omega)) dL_law_389 ?_
  refine lv_aload_n hx hb dL_law_390 rfl (lv_at hl 0 rfl) ?_
  refine lv_iload_n hx hb dL_law_391 rfl (lv_at hl 3 rfl) ?_
  refine lv_iconst (v := 2) hx hb dL_law_392 (by decide) ?_
  refine lv_iadd hx hb dL_law_393 ?_
  refine va_sld hx hb hX hbl hbA hS (inL (j := 2) hL hi (by omega)) dL_law_394 ?_
  refine ldC_i hP hD hS hA (va_runV (As := [.int (xs (nI (5 * k) + 1).toNatClampNeg), .int (xs (nI (5 * k) + 2).toNatClampNeg)]) (rest := []) ⟨hx, hb, hml, hown, htl⟩ (c_X5_pole l D (xs (nI (5 * k) + 1).toNatClampNeg) (xs (nI (5 * k) + 2).toNatClampNeg) H.size (by omega) hC) (cwV 2 htl (gV mw_19_1 mw_19_2 mw_19_3 mw_1_2 mw_19_4) rfl rfl rfl (by decide +kernel) ⟨Nat.le_of_ble_eq_true rfl, Nat.le_of_ble_eq_true rfl⟩) (lPreC hN hK hP hD hC _) rfl rfl hl.1 rfl (lv_room (Nat.le_of_ble_eq_true rfl)) dL_law_395 ⟨by show 56 + 20 * k + 0 ≤ 600000; omega, by show 30000 + 10529 * k + 0 ≤ 7302250; omega⟩) (fun r C H locs h5 hP hD hS => ?_)
  refine lv_aload_n hx hb dL_law_398 rfl (lv_at hl 2 rfl) ?_
  refine lv_aload_n hx hb dL_law_399 rfl (lv_at hl 0 rfl) ?_
  refine lv_iload_n hx hb dL_law_400 rfl (lv_at hl 3 rfl) ?_
  refine lv_iconst (v := 1) hx hb dL_law_401 (by decide) ?_
  refine lv_iadd hx hb dL_law_402 ?_
  refine va_sld hx hb hX hbl hbA hS (inL (j := 1) hL hi (by omega)) dL_law_403 ?_
  refine lv_aload_n hx hb dL_law_404 rfl (lv_at hl 0 rfl) ?_
  refine lv_iload_n hx hb dL_law_405 rfl (lv_at hl 3 rfl) ?_
  refine lv_iconst (v := 2) hx hb dL_law_406 (by decide) ?_
  refine lv_iadd hx hb dL_law_407 ?_
  refine va_sld hx hb hX hbl hbA hS (inL (j := 2) hL hi (by omega)) dL_law_408 ?_
  refine ldM_i hP hD hS hA (va_runV (As := [.int (xs (nI (5 * k) + 1).toNatClampNeg), .int (xs (nI (5 * k) + 2).toNatClampNeg)]) (rest := [.int r]) ⟨hx, hb, hml, hown, htl⟩ (c_X6_pole l D (xs (nI (5 * k) + 1).toNatClampNeg) (xs (nI (5 * k) + 2).toNatClampNeg) H.size hM) (cwV 2 htl (gV mw_19_12 mw_19_13 mw_19_14 mw_1_5 mw_19_15) rfl rfl rfl (by decide +kernel) ⟨Nat.le_of_ble_eq_true rfl, Nat.le_of_ble_eq_true rfl⟩) (lPreM hN hK hP hD hM _) rfl rfl hl.1 rfl (lv_room (Nat.le_of_ble_eq_true rfl)) dL_law_409 ⟨by show 56 + 20 * k + 0 + 0 ≤ 600000; omega, by show 30000 + 10529 * k + 0 + 0 ≤ 7302250; omega⟩) (fun r2 M H locs h6 hP hD hS => ?_)
  have heq := h5.1.trans h6.1.symm
  refine lv_icmp_eq (tgt := 891) hx hb dL_law_412 (by decide) (fun c0 => ?_) (fun c0 => ?_)
  · refine W.widen (k := 56 + 20 * (k + 1)) (n := 30000 + 10529 * (k + 1)) (by omega) (by omega) ?_
    exact nx _ _ _ _ _ _ _ ⟨hP, hD, hS, h5.2, h6.2⟩
  · exact absurd heq c0
set_option maxHeartbeats 4000000 in
set_option maxRecDepth 100000 in
theorem lc_poleOf {p : Program} {l : Launch} {e0 : Env} {s : State} {m : MethodId} {below : List Frame} {meth : Method} {c : Code} {b L : Nat} {xs : Nat → Int32} {D : va_G} {cy : Nat → ClassId} {hSP hMo : Nat} {σ : Nat → Nat → Int32} {v e k : Nat} {C M : va_W} {H : Heap} {locs : List Loc} {ls : Array Slot} (X : LX p s m c b L xs D cy) (hL : L ≤ 2560) (hi : 5 * k + 5 ≤ L) (I : LI s D cy hSP hMo σ v e k C M H locs) (hl : lv_has ls 4 [(0, .ref b), (1, .ref hSP), (2, .ref hMo), (3, .int (nI (5 * k)))]) (nx : ∀ σ' v' e' C' M' H' locs', LI s D cy hSP hMo σ' v' e' (k + 1) C' M' H' locs' → W p l e0 room_1 s m #[Value.ref b] below meth c H' locs' (56 + 20 * (k + 1)) (30000 + 10529 * (k + 1)) (lw_Z below #[Value.ref b] s) (F0 m 891 ls [])) : W p l e0 room_1 s m #[Value.ref b] below meth c H locs (56 + 20 * k) (30000 + 10529 * k) (lw_Z below #[Value.ref b] s) (F0 m 417 ls []) := by
  obtain ⟨hx, hb, hml, hown, htl, hX, hbl, hK, hN⟩ := X
  obtain ⟨hP, hD, hS, hC, hM⟩ := I
  have hA : ∀ q : Nat, s.heap.size ≤ q → (fun q : Nat => s.heap.size ≤ q) q := fun _ h => h
  have hbA : ¬ (fun q : Nat => s.heap.size ≤ q) b := Nat.not_le.mpr hbl
  refine lv_aload_n hx hb dL_law_417 rfl (lv_at hl 1 rfl) ?_
  refine lv_aload_n hx hb dL_law_418 rfl (lv_at hl 0 rfl) ?_
  refine lv_iload_n hx hb dL_law_419 rfl (lv_at hl 3 rfl) ?_
  refine lv_iconst (v := 1) hx hb dL_law_420 (by decide) ?_
  refine lv_iadd hx hb dL_law_421 ?_
  refine va_sld hx hb hX hbl hbA hS (inL (j := 1) hL hi (by omega)) dL_law_422 ?_
  refine lv_aload_n hx hb dL_law_423 rfl (lv_at hl 0 rfl) ?_
  refine lv_iload_n hx hb dL_law_424 rfl (lv_at hl 3 rfl) ?_
  refine lv_iconst (v := 2) hx hb dL_law_425 (by decide) ?_
  refine lv_iadd hx hb dL_law_426 ?_
  refine va_sld hx hb hX hbl hbA hS (inL (j := 2) hL hi (by omega)) dL_law_427 ?_
  refine lv_aload_n hx hb dL_law_428 rfl (lv_at hl 0 rfl) ?_
  refine lv_iload_n hx hb dL_law_429 rfl (lv_at hl 3 rfl) ?_
  refine lv_iconst (v := 3) hx hb dL_law_430 (by decide) ?_
  refine lv_iadd hx hb dL_law_431 ?_
  refine va_sld hx hb hX hbl hbA hS (inL (j := 3) hL hi (by omega)) dL_law_432 ?_
  refine ldC_i hP hD hS hA (va_runV (As := [.int (xs (nI (5 * k) + 1).toNatClampNeg), .int (xs (nI (5 * k) + 2).toNatClampNeg), .int (xs (nI (5 * k) + 3).toNatClampNeg)]) (rest := []) ⟨hx, hb, hml, hown, htl⟩ (c_X5_poleOf l D (xs (nI (5 * k) + 1).toNatClampNeg) (xs (nI (5 * k) + 2).toNatClampNeg) (xs (nI (5 * k) + 3).toNatClampNeg) H.size (by omega) hC) (cwV 3 htl (gV mw_19_20 mw_19_21 mw_19_22 mw_1_2 mw_19_23) rfl rfl rfl (by decide +kernel) ⟨Nat.le_of_ble_eq_true rfl, Nat.le_of_ble_eq_true rfl⟩) (lPreC hN hK hP hD hC _) rfl rfl hl.1 rfl (lv_room (Nat.le_of_ble_eq_true rfl)) dL_law_433 ⟨by show 56 + 20 * k + 0 ≤ 600000; omega, by show 30000 + 10529 * k + 0 ≤ 7302250; omega⟩) (fun r C H locs h5 hP hD hS => ?_)
  refine lv_aload_n hx hb dL_law_436 rfl (lv_at hl 2 rfl) ?_
  refine lv_aload_n hx hb dL_law_437 rfl (lv_at hl 0 rfl) ?_
  refine lv_iload_n hx hb dL_law_438 rfl (lv_at hl 3 rfl) ?_
  refine lv_iconst (v := 1) hx hb dL_law_439 (by decide) ?_
  refine lv_iadd hx hb dL_law_440 ?_
  refine va_sld hx hb hX hbl hbA hS (inL (j := 1) hL hi (by omega)) dL_law_441 ?_
  refine lv_aload_n hx hb dL_law_442 rfl (lv_at hl 0 rfl) ?_
  refine lv_iload_n hx hb dL_law_443 rfl (lv_at hl 3 rfl) ?_
  refine lv_iconst (v := 2) hx hb dL_law_444 (by decide) ?_
  refine lv_iadd hx hb dL_law_445 ?_
  refine va_sld hx hb hX hbl hbA hS (inL (j := 2) hL hi (by omega)) dL_law_446 ?_
  refine lv_aload_n hx hb dL_law_447 rfl (lv_at hl 0 rfl) ?_
  refine lv_iload_n hx hb dL_law_448 rfl (lv_at hl 3 rfl) ?_
  refine lv_iconst (v := 3) hx hb dL_law_449 (by decide) ?_
  refine lv_iadd hx hb dL_law_450 ?_
  refine va_sld hx hb hX hbl hbA hS (inL (j := 3) hL hi (by omega)) dL_law_451 ?_
  refine ldM_i hP hD hS hA (va_runV (As := [.int (xs (nI (5 * k) + 1).toNatClampNeg), .int (xs (nI (5 * k) + 2).toNatClampNeg), .int (xs (nI (5 * k) + 3).toNatClampNeg)]) (rest := [.int r]) ⟨hx, hb, hml, hown, htl⟩ (c_X6_poleOf l D (xs (nI (5 * k) + 1).toNatClampNeg) (xs (nI (5 * k) + 2).toNatClampNeg) (xs (nI (5 * k) + 3).toNatClampNeg) H.size hM) (cwV 3 htl (gV mw_20_5 mw_20_6 mw_20_7 mw_1_5 mw_20_8) rfl rfl rfl (by decide +kernel) ⟨Nat.le_of_ble_eq_true rfl, Nat.le_of_ble_eq_true rfl⟩) (lPreM hN hK hP hD hM _) rfl rfl hl.1 rfl (lv_room (Nat.le_of_ble_eq_true rfl)) dL_law_452 ⟨by show 56 + 20 * k + 0 + 0 ≤ 600000; omega, by show 30000 + 10529 * k + 0 + 0 ≤ 7302250; omega⟩) (fun r2 M H locs h6 hP hD hS => ?_)
  have heq := h5.1.trans h6.1.symm
  refine lv_icmp_eq (tgt := 891) hx hb dL_law_455 (by decide) (fun c0 => ?_) (fun c0 => ?_)
  · refine W.widen (k := 56 + 20 * (k + 1)) (n := 30000 + 10529 * (k + 1)) (by omega) (by omega) ?_
    exact nx _ _ _ _ _ _ _ ⟨hP, hD, hS, h5.2, h6.2⟩
  · exact absurd heq c0
set_option maxHeartbeats 4000000 in
set_option maxRecDepth 100000 in
theorem lc_pair {p : Program} {l : Launch} {e0 : Env} {s : State} {m : MethodId} {below : List Frame} {meth : Method} {c : Code} {b L : Nat} {xs : Nat → Int32} {D : va_G} {cy : Nat → ClassId} {hSP hMo : Nat} {σ : Nat → Nat → Int32} {v e k : Nat} {C M : va_W} {H : Heap} {locs : List Loc} {ls : Array Slot} (X : LX p s m c b L xs D cy) (hL : L ≤ 2560) (hi : 5 * k + 5 ≤ L) (I : LI s D cy hSP hMo σ v e k C M H locs) (hl : lv_has ls 4 [(0, .ref b), (1, .ref hSP), (2, .ref hMo), (3, .int (nI (5 * k)))]) (nx : ∀ σ' v' e' C' M' H' locs', LI s D cy hSP hMo σ' v' e' (k + 1) C' M' H' locs' → W p l e0 room_1 s m #[Value.ref b] below meth c H' locs' (56 + 20 * (k + 1)) (30000 + 10529 * (k + 1)) (lw_Z below #[Value.ref b] s) (F0 m 891 ls [])) : W p l e0 room_1 s m #[Value.ref b] below meth c H locs (56 + 20 * k) (30000 + 10529 * k) (lw_Z below #[Value.ref b] s) (F0 m 460 ls []) := by
  obtain ⟨hx, hb, hml, hown, htl, hX, hbl, hK, hN⟩ := X
  obtain ⟨hP, hD, hS, hC, hM⟩ := I
  have hA : ∀ q : Nat, s.heap.size ≤ q → (fun q : Nat => s.heap.size ≤ q) q := fun _ h => h
  have hbA : ¬ (fun q : Nat => s.heap.size ≤ q) b := Nat.not_le.mpr hbl
  refine lv_aload_n hx hb dL_law_460 rfl (lv_at hl 1 rfl) ?_
  refine lv_aload_n hx hb dL_law_461 rfl (lv_at hl 0 rfl) ?_
  refine lv_iload_n hx hb dL_law_462 rfl (lv_at hl 3 rfl) ?_
  refine lv_iconst (v := 1) hx hb dL_law_463 (by decide) ?_
  refine lv_iadd hx hb dL_law_464 ?_
  refine va_sld hx hb hX hbl hbA hS (inL (j := 1) hL hi (by omega)) dL_law_465 ?_
  refine lv_aload_n hx hb dL_law_466 rfl (lv_at hl 0 rfl) ?_
  refine lv_iload_n hx hb dL_law_467 rfl (lv_at hl 3 rfl) ?_
  refine lv_iconst (v := 2) hx hb dL_law_468 (by decide) ?_
  refine lv_iadd hx hb dL_law_469 ?_
  refine va_sld hx hb hX hbl hbA hS (inL (j := 2) hL hi (by omega)) dL_law_470 ?_
  refine ldC_i hP hD hS hA (va_runV (As := [.int (xs (nI (5 * k) + 1).toNatClampNeg), .int (xs (nI (5 * k) + 2).toNatClampNeg)]) (rest := []) ⟨hx, hb, hml, hown, htl⟩ (c_X5_pair l D (xs (nI (5 * k) + 1).toNatClampNeg) (xs (nI (5 * k) + 2).toNatClampNeg) H.size (by omega) hC) (cwV 2 htl (gV mw_20_9 mw_20_10 mw_20_11 mw_1_2 mw_20_12) rfl rfl rfl (by decide +kernel) ⟨Nat.le_of_ble_eq_true rfl, Nat.le_of_ble_eq_true rfl⟩) (lPreC hN hK hP hD hC _) rfl rfl hl.1 rfl (lv_room (Nat.le_of_ble_eq_true rfl)) dL_law_471 ⟨by show 56 + 20 * k + 0 ≤ 600000; omega, by show 30000 + 10529 * k + 0 ≤ 7302250; omega⟩) (fun r C H locs h5 hP hD hS => ?_)
  refine lv_aload_n hx hb dL_law_474 rfl (lv_at hl 2 rfl) ?_
  refine lv_aload_n hx hb dL_law_475 rfl (lv_at hl 0 rfl) ?_
  refine lv_iload_n hx hb dL_law_476 rfl (lv_at hl 3 rfl) ?_
  refine lv_iconst (v := 1) hx hb dL_law_477 (by decide) ?_
  refine lv_iadd hx hb dL_law_478 ?_
  refine va_sld hx hb hX hbl hbA hS (inL (j := 1) hL hi (by omega)) dL_law_479 ?_
  refine lv_aload_n hx hb dL_law_480 rfl (lv_at hl 0 rfl) ?_
  refine lv_iload_n hx hb dL_law_481 rfl (lv_at hl 3 rfl) ?_
  refine lv_iconst (v := 2) hx hb dL_law_482 (by decide) ?_
  refine lv_iadd hx hb dL_law_483 ?_
  refine va_sld hx hb hX hbl hbA hS (inL (j := 2) hL hi (by omega)) dL_law_484 ?_
  refine ldM_i hP hD hS hA (va_runV (As := [.int (xs (nI (5 * k) + 1).toNatClampNeg), .int (xs (nI (5 * k) + 2).toNatClampNeg)]) (rest := [.int r]) ⟨hx, hb, hml, hown, htl⟩ (c_X6_pair l D (xs (nI (5 * k) + 1).toNatClampNeg) (xs (nI (5 * k) + 2).toNatClampNeg) H.size hM) (cwV 2 htl (gV mw_20_17 mw_20_18 mw_20_19 mw_1_5 mw_20_20) rfl rfl rfl (by decide +kernel) ⟨Nat.le_of_ble_eq_true rfl, Nat.le_of_ble_eq_true rfl⟩) (lPreM hN hK hP hD hM _) rfl rfl hl.1 rfl (lv_room (Nat.le_of_ble_eq_true rfl)) dL_law_485 ⟨by show 56 + 20 * k + 0 + 0 ≤ 600000; omega, by show 30000 + 10529 * k + 0 + 0 ≤ 7302250; omega⟩) (fun r2 M H locs h6 hP hD hS => ?_)
  have heq := h5.1.trans h6.1.symm
  refine lv_icmp_eq (tgt := 891) hx hb dL_law_488 (by decide) (fun c0 => ?_) (fun c0 => ?_)
  · refine W.widen (k := 56 + 20 * (k + 1)) (n := 30000 + 10529 * (k + 1)) (by omega) (by omega) ?_
    exact nx _ _ _ _ _ _ _ ⟨hP, hD, hS, h5.2, h6.2⟩
  · exact absurd heq c0
