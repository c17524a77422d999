set_option maxHeartbeats 4000000 in
set_option maxRecDepth 100000 in
theorem jL_law_2561 {p : Program} {e : Env} {s : State} {m : MethodId} {below : List Frame} {meth : Method} {c : Code} (l : Launch) (D : va_G) (cy : Nat → ClassId) (G : p_GT) (hGC : ∀ (A : Nat → Prop) (U : State) (H : Heap), G A U H → gC A U H) (hst : l.stackTraces = false) (hGE : ∀ (A : Nat → Prop) (U : State) (H : Heap), G A U H → p_Ex A U H) (hGF : ∀ (A : Nat → Prop) (U : State) (H : Heap), G A U H → gF A U H) (adK adV : Nat → Nat) (hGK : ∀ (A : Nat → Prop) (U : State) (H : Heap), G A U H → gK adK adV A U H) (hGN : ∀ (A : Nat → Prop) (U : State) (H : Heap), G A U H → gN A U H) (hGO : ∀ (A : Nat → Prop) (U : State) (H : Heap), G A U H → va_AO "VillageFeud$Village" U) (dT dO : Nat) (hGT : ∀ (A : Nat → Prop) (U : State) (H : Heap), G A U H → gT dT dO A U H) (hGU : ∀ (A : Nat → Prop) (U : State) (H : Heap), G A U H → gU A U H) (A : Nat → Prop) (b L : Nat) (xs : Nat → Int32) (X : p_X p m c cL_law 9 s #[.ref b] RL D cy G A) (hr : meth.sig.returnType = ret) (hlk : meth.locks = false) (hX : va_X b L xs s s.heap) (hbl : b < s.heap.size) (hbA : ¬ A b) (hfree : ∀ q, A q → s.heap.size ≤ q) (g28 : PS → Nat → Nat → Nat → Nat → Nat → Nat → Int32 → Prop) (ih28 : ∀ (S : PS) (bc bs : Nat) (l1 : Nat) (l2 : Nat) (l3 : Nat) (l4 : Nat) (l5 : Int32), g28 S bc bs l1 l2 l3 l4 l5 → ∀ (H : Heap) (locs : List Loc) (ls : Array Slot) (cells slots : Nat), p_H D cy S A s H locs → lv_has ls 9 [(0, .ref b), (1, .ref l1), (2, .ref l2), (3, .ref l3), (4, .ref l4), (5, .int l5)] → cells + bc ≤ room_1.cells ∧ slots + bs ≤ room_1.slots → W p l e room_1 s m #[Value.ref b] below meth c H locs cells slots (lw_Z below #[Value.ref b] s) (F0 m 28 ls [])) : ∀ (S : PS) (bc bs : Nat) (l1 : Nat) (l2 : Nat) (l3 : Nat) (l4 : Nat) (l5 : Int32), f_L_law_J2561 adK L xs g28 S bc bs l1 l2 l3 l4 l5 → ∀ (H : Heap) (locs : List Loc) (ls : Array Slot) (cells slots : Nat), p_H D cy S A s H locs → lv_has ls 9 [(0, .ref b), (1, .ref l1), (2, .ref l2), (3, .ref l3), (4, .ref l4), (5, .int l5)] → cells + bc ≤ room_1.cells ∧ slots + bs ≤ room_1.slots → W p l e room_1 s m #[Value.ref b] below meth c H locs cells slots (lw_Z below #[Value.ref b] s) (F0 m 2561 ls []) := by
  have hx := X.1.1
  have hb := X.1.2.1
  intro S bc bs l1 l2 l3 l4 l5 hf H locs ls cells slots hH hl hB
  refine lv_iinc (v := l5 + 4) (lv' := [(5, .int (l5 + 4)), (0, .ref b), (1, .ref l1), (2, .ref l2), (3, .ref l3), (4, .ref l4)]) hx hb dL_law_2561 hl (k := 5) rfl rfl (by decide) rfl (fun ls hl => ?_)
  refine lv_goto (tgt := 28) hx hb dL_law_2564 (by decide) ?_
  exact ih28 S bc bs l1 l2 l3 l4 (l5 + 4) hf H locs ls cells slots hH (lv_sub hl [1, 2, 3, 4, 5, 0] rfl) hB
set_option maxHeartbeats 4000000 in
set_option maxRecDepth 100000 in
theorem jL_law_244 {p : Program} {e : Env} {s : State} {m : MethodId} {below : List Frame} {meth : Method} {c : Code} (l : Launch) (D : va_G) (cy : Nat → ClassId) (G : p_GT) (hGC : ∀ (A : Nat → Prop) (U : State) (H : Heap), G A U H → gC A U H) (hst : l.stackTraces = false) (hGE : ∀ (A : Nat → Prop) (U : State) (H : Heap), G A U H → p_Ex A U H) (hGF : ∀ (A : Nat → Prop) (U : State) (H : Heap), G A U H → gF A U H) (adK adV : Nat → Nat) (hGK : ∀ (A : Nat → Prop) (U : State) (H : Heap), G A U H → gK adK adV A U H) (hGN : ∀ (A : Nat → Prop) (U : State) (H : Heap), G A U H → gN A U H) (hGO : ∀ (A : Nat → Prop) (U : State) (H : Heap), G A U H → va_AO "VillageFeud$Village" U) (dT dO : Nat) (hGT : ∀ (A : Nat → Prop) (U : State) (H : Heap), G A U H → gT dT dO A U H) (hGU : ∀ (A : Nat → Prop) (U : State) (H : Heap), G A U H → gU A U H) (A : Nat → Prop) (b L : Nat) (xs : Nat → Int32) (X : p_X p m c cL_law 9 s #[.ref b] RL D cy G A) (hr : meth.sig.returnType = ret) (hlk : meth.locks = false) (hX : va_X b L xs s s.heap) (hbl : b < s.heap.size) (hbA : ¬ A b) (hfree : ∀ q, A q → s.heap.size ≤ q) (g28 : PS → Nat → Nat → Nat → Nat → Nat → Nat → Int32 → Prop) (ih28 : ∀ (S : PS) (bc bs : Nat) (l1 : Nat) (l2 : Nat) (l3 : Nat) (l4 : Nat) (l5 : Int32), g28 S bc bs l1 l2 l3 l4 l5 → ∀ (H : Heap) (locs : List Loc) (ls : Array Slot) (cells slots : Nat), p_H D cy S A s H locs → lv_has ls 9 [(0, .ref b), (1, .ref l1), (2, .ref l2), (3, .ref l3), (4, .ref l4), (5, .int l5)] → cells + bc ≤ room_1.cells ∧ slots + bs ≤ room_1.slots → W p l e room_1 s m #[Value.ref b] below meth c H locs cells slots (lw_Z below #[Value.ref b] s) (F0 m 28 ls [])) : ∀ (S : PS) (bc bs : Nat) (l1 : Nat) (l2 : Nat) (l3 : Nat) (l4 : Nat) (l5 : Int32), f_L_law_J244 adK L xs g28 S bc bs l1 l2 l3 l4 l5 → ∀ (H : Heap) (locs : List Loc) (ls : Array Slot) (cells slots : Nat), p_H D cy S A s H locs → lv_has ls 9 [(0, .ref b), (1, .ref l1), (2, .ref l2), (3, .ref l3), (4, .ref l4), (5, .int l5)] → cells + bc ≤ room_1.cells ∧ slots + bs ≤ room_1.slots → W p l e room_1 s m #[Value.ref b] below meth c H locs cells slots (lw_Z below #[Value.ref b] s) (F0 m 244 ls []) := by
  have hx := X.1.1
  have hb := X.1.2.1
  have hJ2561 := jL_law_2561 l D cy G hGC hst hGE hGF adK adV hGK hGN hGO dT dO hGT hGU A b L xs X hr hlk hX hbl hbA hfree g28 ih28
  intro S bc bs l1 l2 l3 l4 l5 hf H locs ls cells slots hH hl hB
  have hJ285 : ∀ (S : PS) (bc bs : Nat) (l1 : Nat) (l2 : Nat) (l3 : Nat) (l4 : Nat) (l5 : Int32), f_L_law_J285 adK L xs g28 S bc bs l1 l2 l3 l4 l5 → ∀ (H : Heap) (locs : List Loc) (ls : Array Slot) (cells slots : Nat), p_H D cy S A s H locs → lv_has ls 9 [(0, .ref b), (1, .ref l1), (2, .ref l2), (3, .ref l3), (4, .ref l4), (5, .int l5)] → cells + bc ≤ room_1.cells ∧ slots + bs ≤ room_1.slots → W p l e room_1 s m [.ref b].toArray below meth c H locs cells slots (lw_Z below #[Value.ref b] s) (F0 m 285 ls []) := by
    intro S bc bs l1 l2 l3 l4 l5 hf H locs ls cells slots hH hl hB
    refine lv_goto (tgt := 2561) hx hb dL_law_285 (by decide) ?_
    exact hJ2561 S bc bs l1 l2 l3 l4 l5 hf H locs ls cells slots hH hl hB
  refine lv_aload_n hx hb dL_law_244 rfl (lv_at hl 1 rfl) ?_
  refine lv_aload_n hx hb dL_law_245 rfl (lv_at hl 3 rfl) ?_
  obtain ⟨mc2, ms2, hm1, hs1, hf⟩ := hf
  refine q_callXi X hH hB hm1 hs1 (q_runSx [.ref l1, .ref l3] [] X hH hl (c_L_household l D cy G X.2.2.2.1 hst hGE S l1 l3 mc2 ms2 _ _ hf) mw_L_household tw_950 tw_949 ⟨Nat.le_of_ble_eq_true rfl, Nat.le_of_ble_eq_true rfl⟩ rfl (Nat.le_of_ble_eq_true rfl) dL_law_246 ⟨Nat.le_trans (Nat.add_le_add_left hm1 _) hB.1, Nat.le_trans (Nat.add_le_add_left hs1 _) hB.2⟩) (fun _ _ _ _ hf _ _ _ _ _ _ _ _ _ => hf.elim) (fun v3 S1 hf H locs cells slots hH hB => ?_)
  refine lv_istore (lv' := [(6, .int v3), (0, .ref b), (1, .ref l1), (2, .ref l2), (3, .ref l3), (4, .ref l4), (5, .int l5)]) hx hb dL_law_249 hl (by decide) rfl (fun ls hl => ?_)
  refine lv_aload_n hx hb dL_law_251 rfl (lv_at hl 3 rfl) ?_
  obtain ⟨hb1, hb2, hf⟩ := hf
  refine q_backI0 X hH (q_runV [] [] X hH hl (c_X8_household l D cy G X.2.2.2.1 S1 l2 _ _ hf) mf_X8_household mv_X8_household tw_1697 ⟨Nat.le_of_ble_eq_true rfl, Nat.le_of_ble_eq_true rfl⟩ hb1 hb2 (T := TX8) (N := 25) rfl rfl (Nat.le_of_ble_eq_true rfl) dL_law_252 ⟨Nat.le_trans (Nat.le_add_right _ _) hB.1, Nat.le_trans (Nat.le_add_right _ _) hB.2⟩) (fun v5 S4 hf H locs hH => ?_)
  refine lv_istore (lv' := [(7, .int v5), (6, .int v3), (0, .ref b), (1, .ref l1), (2, .ref l2), (3, .ref l3), (4, .ref l4), (5, .int l5)]) hx hb dL_law_255 hl (by decide) rfl (fun ls hl => ?_)
  refine lv_aload_n hx hb dL_law_257 rfl (lv_at hl 4 rfl) ?_
  obtain ⟨hb1, hb2, hf⟩ := hf
  refine q_backI0 X hH (q_runV [] [] X hH hl (c_X8_thrown l D cy G X.2.2.2.1 S4 l2 _ _ hf) mf_X8_thrown mv_X8_thrown tw_1686 ⟨Nat.le_of_ble_eq_true rfl, Nat.le_of_ble_eq_true rfl⟩ hb1 hb2 (T := TX8) (N := 25) rfl rfl (Nat.le_of_ble_eq_true rfl) dL_law_258 ⟨Nat.le_trans (Nat.le_add_right _ _) hB.1, Nat.le_trans (Nat.le_add_right _ _) hB.2⟩) (fun v7 S6 hf H locs hH => ?_)
  refine lv_iload hx hb dL_law_261 (lv_at hl 1 rfl) ?_
  refine lv_icmp_eq (tgt := 268) hx hb dL_law_263 (by decide) (fun c8 => ?_) (fun c8 => ?_)
  · have hf := (if_pos c8).mp hf
    refine lv_iload hx hb dL_law_268 (lv_at hl 1 rfl) ?_
    refine lv_if_ne (tgt := 285) hx hb dL_law_270 (by decide) (fun c9 => ?_) (fun c9 => ?_)
    · have hf := (if_neg c9).mp hf
      exact hJ285 S6 (bc - mc2) (bs - ms2) l1 l2 l3 l4 l5 hf H locs ls cells slots hH (lv_sub hl [2, 3, 4, 5, 6, 7] rfl) hB
    · have hf := (if_pos c9).mp hf
      refine lv_aload_n hx hb dL_law_273 rfl (lv_at hl 5 rfl) ?_
      refine lv_iconst (v := 0) hx hb dL_law_274 (by decide) ?_
      refine q_lald X hH hf dL_law_275 (fun v10 hf => ?_)
      refine lv_iload hx hb dL_law_276 (lv_at hl 0 rfl) ?_
      refine lv_i2l (v := v5.toInt64) hx hb dL_law_278 rfl ?_
      refine W.lcmp hx hb dL_law_279 ?_
      refine lv_if_eq (tgt := 285) hx hb dL_law_280 (by decide) (fun c11 => ?_) (fun c11 => ?_)
      · have hf := (if_pos c11).mp hf
        exact hJ285 S6 (bc - mc2) (bs - ms2) l1 l2 l3 l4 l5 hf H locs ls cells slots hH (lv_sub hl [2, 3, 4, 5, 6, 7] rfl) hB
      · have hf := (if_neg c11).mp hf
        refine lv_iconst (v := 0) hx hb dL_law_283 (by decide) ?_
        exact hf.elim
  · have hf := (if_neg c8).mp hf
    refine lv_iconst (v := 0) hx hb dL_law_266 (by decide) ?_
    exact hf.elim
set_option maxHeartbeats 4000000 in
set_option maxRecDepth 100000 in
theorem jL_law_288 {p : Program} {e : Env} {s : State} {m : MethodId} {below : List Frame} {meth : Method} {c : Code} (l : Launch) (D : va_G) (cy : Nat → ClassId) (G : p_GT) (hGC : ∀ (A : Nat → Prop) (U : State) (H : Heap), G A U H → gC A U H) (hst : l.stackTraces = false) (hGE : ∀ (A : Nat → Prop) (U : State) (H : Heap), G A U H → p_Ex A U H) (hGF : ∀ (A : Nat → Prop) (U : State) (H : Heap), G A U H → gF A U H) (adK adV : Nat → Nat) (hGK : ∀ (A : Nat → Prop) (U : State) (H : Heap), G A U H → gK adK adV A U H) (hGN : ∀ (A : Nat → Prop) (U : State) (H : Heap), G A U H → gN A U H) (hGO : ∀ (A : Nat → Prop) (U : State) (H : Heap), G A U H → va_AO "VillageFeud$Village" U) (dT dO : Nat) (hGT : ∀ (A : Nat → Prop) (U : State) (H : Heap), G A U H → gT dT dO A U H) (hGU : ∀ (A : Nat → Prop) (U : State) (H : Heap), G A U H → gU A U H) (A : Nat → Prop) (b L : Nat) (xs : Nat → Int32) (X : p_X p m c cL_law 9 s #[.ref b] RL D cy G A) (hr : meth.sig.returnType = ret) (hlk : meth.locks = false) (hX : va_X b L xs s s.heap) (hbl : b < s.heap.size) (hbA : ¬ A b) (hfree : ∀ q, A q → s.heap.size ≤ q) (g28 : PS → Nat → Nat → Nat → Nat → Nat → Nat → Int32 → Prop) (ih28 : ∀ (S : PS) (bc bs : Nat) (l1 : Nat) (l2 : Nat) (l3 : Nat) (l4 : Nat) (l5 : Int32), g28 S bc bs l1 l2 l3 l4 l5 → ∀ (H : Heap) (locs : List Loc) (ls : Array Slot) (cells slots : Nat), p_H D cy S A s H locs → lv_has ls 9 [(0, .ref b), (1, .ref l1), (2, .ref l2), (3, .ref l3), (4, .ref l4), (5, .int l5)] → cells + bc ≤ room_1.cells ∧ slots + bs ≤ room_1.slots → W p l e room_1 s m #[Value.ref b] below meth c H locs cells slots (lw_Z below #[Value.ref b] s) (F0 m 28 ls [])) : ∀ (S : PS) (bc bs : Nat) (l1 : Nat) (l2 : Nat) (l3 : Nat) (l4 : Nat) (l5 : Int32), f_L_law_J288 adK L xs g28 S bc bs l1 l2 l3 l4 l5 → ∀ (H : Heap) (locs : List Loc) (ls : Array Slot) (cells slots : Nat), p_H D cy S A s H locs → lv_has ls 9 [(0, .ref b), (1, .ref l1), (2, .ref l2), (3, .ref l3), (4, .ref l4), (5, .int l5)] → cells + bc ≤ room_1.cells ∧ slots + bs ≤ room_1.slots → W p l e room_1 s m #[Value.ref b] below meth c H locs cells slots (lw_Z below #[Value.ref b] s) (F0 m 288 ls []) := by
  have hx := X.1.1
  have hb := X.1.2.1
  have hJ2561 := jL_law_2561 l D cy G hGC hst hGE hGF adK adV hGK hGN hGO dT dO hGT hGU A b L xs X hr hlk hX hbl hbA hfree g28 ih28
  intro S bc bs l1 l2 l3 l4 l5 hf H locs ls cells slots hH hl hB
  have hJ341 : ∀ (S : PS) (bc bs : Nat) (l1 : Nat) (l2 : Nat) (l3 : Nat) (l4 : Nat) (l5 : Int32), f_L_law_J341 adK L xs g28 S bc bs l1 l2 l3 l4 l5 → ∀ (H : Heap) (locs : List Loc) (ls : Array Slot) (cells slots : Nat), p_H D cy S A s H locs → lv_has ls 9 [(0, .ref b), (1, .ref l1), (2, .ref l2), (3, .ref l3), (4, .ref l4), (5, .int l5)] → cells + bc ≤ room_1.cells ∧ slots + bs ≤ room_1.slots → W p l e room_1 s m [.ref b].toArray below meth c H locs cells slots (lw_Z below #[Value.ref b] s) (F0 m 341 ls []) := by
    intro S bc bs l1 l2 l3 l4 l5 hf H locs ls cells slots hH hl hB
    refine lv_goto (tgt := 2561) hx hb dL_law_341 (by decide) ?_
    exact hJ2561 S bc bs l1 l2 l3 l4 l5 hf H locs ls cells slots hH hl hB
  refine lv_aload_n hx hb dL_law_288 rfl (lv_at hl 1 rfl) ?_
  refine lv_aload_n hx hb dL_law_289 rfl (lv_at hl 0 rfl) ?_
  refine lv_iload hx hb dL_law_290 (lv_at hl 5 rfl) ?_
  refine lv_iconst (v := 1) hx hb dL_law_292 (by decide) ?_
  refine lv_iadd hx hb dL_law_293 ?_
  refine va_sld hx hb hX hbl hbA hH.2.2 hf.1 dL_law_294 ?_
  have hf := hf.2
  refine lv_aload_n hx hb dL_law_295 rfl (lv_at hl 3 rfl) ?_
  obtain ⟨mc2, ms2, hm1, hs1, hf⟩ := hf
  refine q_callXi X hH hB hm1 hs1 (q_runSx [.ref l1, .int (xs (l5 + 1).toNatClampNeg), .ref l3] [] X hH hl (c_L_leave l D cy G X.2.2.2.1 hst hGE S l1 (xs (l5 + 1).toNatClampNeg) l3 mc2 ms2 _ _ hf) mw_L_leave tw_1049 tw_1048 ⟨Nat.le_of_ble_eq_true rfl, Nat.le_of_ble_eq_true rfl⟩ rfl (Nat.le_of_ble_eq_true rfl) dL_law_296 ⟨Nat.le_trans (Nat.add_le_add_left hm1 _) hB.1, Nat.le_trans (Nat.add_le_add_left hs1 _) hB.2⟩) (fun _ _ _ _ hf _ _ _ _ _ _ _ _ _ => hf.elim) (fun v3 S1 hf H locs cells slots hH hB => ?_)
  refine lv_istore (lv' := [(6, .int v3), (0, .ref b), (1, .ref l1), (2, .ref l2), (3, .ref l3), (4, .ref l4), (5, .int l5)]) hx hb dL_law_299 hl (by decide) rfl (fun ls hl => ?_)
  refine lv_aload_n hx hb dL_law_301 rfl (lv_at hl 3 rfl) ?_
  refine lv_aload_n hx hb dL_law_302 rfl (lv_at hl 1 rfl) ?_
  refine lv_iload hx hb dL_law_303 (lv_at hl 6 rfl) ?_
  refine lv_iconst (v := 1) hx hb dL_law_305 (by decide) ?_
  refine lv_iadd hx hb dL_law_306 ?_
  refine va_sld hx hb hX hbl hbA hH.2.2 hf.1 dL_law_307 ?_
  have hf := hf.2
  obtain ⟨hb1, hb2, hf⟩ := hf
  refine q_backI0 X hH (q_runV [.int (xs (l5 + 1).toNatClampNeg)] [] X hH hl (c_X8_leave l D cy G X.2.2.2.1 S1 l2 (xs (l5 + 1).toNatClampNeg) _ _ hf) mf_X8_leave mv_X8_leave tw_1725 ⟨Nat.le_of_ble_eq_true rfl, Nat.le_of_ble_eq_true rfl⟩ hb1 hb2 (T := TX8) (N := 25) rfl rfl (Nat.le_of_ble_eq_true rfl) dL_law_308 ⟨Nat.le_trans (Nat.le_add_right _ _) hB.1, Nat.le_trans (Nat.le_add_right _ _) hB.2⟩) (fun v5 S4 hf H locs hH => ?_)
  refine lv_istore (lv' := [(7, .int v5), (6, .int v3), (0, .ref b), (1, .ref l1), (2, .ref l2), (3, .ref l3), (4, .ref l4), (5, .int l5)]) hx hb dL_law_311 hl (by decide) rfl (fun ls hl => ?_)
  refine lv_aload_n hx hb dL_law_313 rfl (lv_at hl 4 rfl) ?_
  obtain ⟨hb1, hb2, hf⟩ := hf
  refine q_backI0 X hH (q_runV [] [] X hH hl (c_X8_thrown l D cy G X.2.2.2.1 S4 l2 _ _ hf) mf_X8_thrown mv_X8_thrown tw_1686 ⟨Nat.le_of_ble_eq_true rfl, Nat.le_of_ble_eq_true rfl⟩ hb1 hb2 (T := TX8) (N := 25) rfl rfl (Nat.le_of_ble_eq_true rfl) dL_law_314 ⟨Nat.le_trans (Nat.le_add_right _ _) hB.1, Nat.le_trans (Nat.le_add_right _ _) hB.2⟩) (fun v7 S6 hf H locs hH => ?_)
  refine lv_iload hx hb dL_law_317 (lv_at hl 1 rfl) ?_
  refine lv_icmp_eq (tgt := 324) hx hb dL_law_319 (by decide) (fun c8 => ?_) (fun c8 => ?_)
  · have hf := (if_pos c8).mp hf
    refine lv_iload hx hb dL_law_324 (lv_at hl 1 rfl) ?_
    refine lv_if_ne (tgt := 341) hx hb dL_law_326 (by decide) (fun c9 => ?_) (fun c9 => ?_)
    · have hf := (if_neg c9).mp hf
      exact hJ341 S6 (bc - mc2) (bs - ms2) l1 l2 l3 l4 l5 hf H locs ls cells slots hH (lv_sub hl [2, 3, 4, 5, 6, 7] rfl) hB
    · have hf := (if_pos c9).mp hf
      refine lv_aload_n hx hb dL_law_329 rfl (lv_at hl 5 rfl) ?_
      refine lv_iconst (v := 0) hx hb dL_law_330 (by decide) ?_
      refine q_lald X hH hf dL_law_331 (fun v10 hf => ?_)
      refine lv_iload hx hb dL_law_332 (lv_at hl 0 rfl) ?_
      refine lv_i2l (v := v5.toInt64) hx hb dL_law_334 rfl ?_
      refine W.lcmp hx hb dL_law_335 ?_
      refine lv_if_eq (tgt := 341) hx hb dL_law_336 (by decide) (fun c11 => ?_) (fun c11 => ?_)
      · have hf := (if_pos c11).mp hf
        exact hJ341 S6 (bc - mc2) (bs - ms2) l1 l2 l3 l4 l5 hf H locs ls cells slots hH (lv_sub hl [2, 3, 4, 5, 6, 7] rfl) hB
      · have hf := (if_neg c11).mp hf
        refine lv_iconst (v := 0) hx hb dL_law_339 (by decide) ?_
        exact hf.elim
  · have hf := (if_neg c8).mp hf
    refine lv_iconst (v := 0) hx hb dL_law_322 (by decide) ?_
    exact hf.elim
set_option maxHeartbeats 4000000 in
set_option maxRecDepth 100000 in
theorem jL_law_344 {p : Program} {e : Env} {s : State} {m : MethodId} {below : List Frame} {meth : Method} {c : Code} (l : Launch) (D : va_G) (cy : Nat → ClassId) (G : p_GT) (hGC : ∀ (A : Nat → Prop) (U : State) (H : Heap), G A U H → gC A U H) (hst : l.stackTraces = false) (hGE : ∀ (A : Nat → Prop) (U : State) (H : Heap), G A U H → p_Ex A U H) (hGF : ∀ (A : Nat → Prop) (U : State) (H : Heap), G A U H → gF A U H) (adK adV : Nat → Nat) (hGK : ∀ (A : Nat → Prop) (U : State) (H : Heap), G A U H → gK adK adV A U H) (hGN : ∀ (A : Nat → Prop) (U : State) (H : Heap), G A U H → gN A U H) (hGO : ∀ (A : Nat → Prop) (U : State) (H : Heap), G A U H → va_AO "VillageFeud$Village" U) (dT dO : Nat) (hGT : ∀ (A : Nat → Prop) (U : State) (H : Heap), G A U H → gT dT dO A U H) (hGU : ∀ (A : Nat → Prop) (U : State) (H : Heap), G A U H → gU A U H) (A : Nat → Prop) (b L : Nat) (xs : Nat → Int32) (X : p_X p m c cL_law 9 s #[.ref b] RL D cy G A) (hr : meth.sig.returnType = ret) (hlk : meth.locks = false) (hX : va_X b L xs s s.heap) (hbl : b < s.heap.size) (hbA : ¬ A b) (hfree : ∀ q, A q → s.heap.size ≤ q) (g28 : PS → Nat → Nat → Nat → Nat → Nat → Nat → Int32 → Prop) (ih28 : ∀ (S : PS) (bc bs : Nat) (l1 : Nat) (l2 : Nat) (l3 : Nat) (l4 : Nat) (l5 : Int32), g28 S bc bs l1 l2 l3 l4 l5 → ∀ (H : Heap) (locs : List Loc) (ls : Array Slot) (cells slots : Nat), p_H D cy S A s H locs → lv_has ls 9 [(0, .ref b), (1, .ref l1), (2, .ref l2), (3, .ref l3), (4, .ref l4), (5, .int l5)] → cells + bc ≤ room_1.cells ∧ slots + bs ≤ room_1.slots → W p l e room_1 s m #[Value.ref b] below meth c H locs cells slots (lw_Z below #[Value.ref b] s) (F0 m 28 ls [])) : ∀ (S : PS) (bc bs : Nat) (l1 : Nat) (l2 : Nat) (l3 : Nat) (l4 : Nat) (l5 : Int32), f_L_law_J344 adK L xs g28 S bc bs l1 l2 l3 l4 l5 → ∀ (H : Heap) (locs : List Loc) (ls : Array Slot) (cells slots : Nat), p_H D cy S A s H locs → lv_has ls 9 [(0, .ref b), (1, .ref l1), (2, .ref l2), (3, .ref l3), (4, .ref l4), (5, .int l5)] → cells + bc ≤ room_1.cells ∧ slots + bs ≤ room_1.slots → W p l e room_1 s m #[Value.ref b] below meth c H locs cells slots (lw_Z below #[Value.ref b] s) (F0 m 344 ls []) := by
  have hx := X.1.1
  have hb := X.1.2.1
  have hJ2561 := jL_law_2561 l D cy G hGC hst hGE hGF adK adV hGK hGN hGO dT dO hGT hGU A b L xs X hr hlk hX hbl hbA hfree g28 ih28
  intro S bc bs l1 l2 l3 l4 l5 hf H locs ls cells slots hH hl hB
  have hJ421 : ∀ (S : PS) (bc bs : Nat) (l1 : Nat) (l2 : Nat) (l3 : Nat) (l4 : Nat) (l5 : Int32), f_L_law_J421 adK L xs g28 S bc bs l1 l2 l3 l4 l5 → ∀ (H : Heap) (locs : List Loc) (ls : Array Slot) (cells slots : Nat), p_H D cy S A s H locs → lv_has ls 9 [(0, .ref b), (1, .ref l1), (2, .ref l2), (3, .ref l3), (4, .ref l4), (5, .int l5)] → cells + bc ≤ room_1.cells ∧ slots + bs ≤ room_1.slots → W p l e room_1 s m [.ref b].toArray below meth c H locs cells slots (lw_Z below #[Value.ref b] s) (F0 m 421 ls []) := by
    intro S bc bs l1 l2 l3 l4 l5 hf H locs ls cells slots hH hl hB
    refine lv_goto (tgt := 2561) hx hb dL_law_421 (by decide) ?_
    exact hJ2561 S bc bs l1 l2 l3 l4 l5 hf H locs ls cells slots hH hl hB
  refine lv_aload_n hx hb dL_law_344 rfl (lv_at hl 1 rfl) ?_
  refine lv_aload_n hx hb dL_law_345 rfl (lv_at hl 0 rfl) ?_
  refine lv_iload hx hb dL_law_346 (lv_at hl 5 rfl) ?_
  refine lv_iconst (v := 1) hx hb dL_law_348 (by decide) ?_
  refine lv_iadd hx hb dL_law_349 ?_
  refine va_sld hx hb hX hbl hbA hH.2.2 hf.1 dL_law_350 ?_
  have hf := hf.2
  refine lv_aload_n hx hb dL_law_351 rfl (lv_at hl 0 rfl) ?_
  refine lv_iload hx hb dL_law_352 (lv_at hl 5 rfl) ?_
  refine lv_iconst (v := 2) hx hb dL_law_354 (by decide) ?_
  refine lv_iadd hx hb dL_law_355 ?_
  refine va_sld hx hb hX hbl hbA hH.2.2 hf.1 dL_law_356 ?_
  have hf := hf.2
  refine lv_aload_n hx hb dL_law_357 rfl (lv_at hl 0 rfl) ?_
  refine lv_iload hx hb dL_law_358 (lv_at hl 5 rfl) ?_
  refine lv_iconst (v := 3) hx hb dL_law_360 (by decide) ?_
  refine lv_iadd hx hb dL_law_361 ?_
  refine va_sld hx hb hX hbl hbA hH.2.2 hf.1 dL_law_362 ?_
  have hf := hf.2
  refine lv_aload_n hx hb dL_law_363 rfl (lv_at hl 3 rfl) ?_
  obtain ⟨mc2, ms2, hm1, hs1, hf⟩ := hf
  refine q_callXi X hH hB hm1 hs1 (q_runSx [.ref l1, .int (xs (l5 + 1).toNatClampNeg), .int (xs (l5 + 2).toNatClampNeg), .int (xs (l5 + 3).toNatClampNeg), .ref l3] [] X hH hl (c_L_bond l D cy G X.2.2.2.1 hst hGE S l1 (xs (l5 + 1).toNatClampNeg) (xs (l5 + 2).toNatClampNeg) (xs (l5 + 3).toNatClampNeg) l3 mc2 ms2 _ _ hf) mw_L_bond tw_1057 tw_1056 ⟨Nat.le_of_ble_eq_true rfl, Nat.le_of_ble_eq_true rfl⟩ rfl (Nat.le_of_ble_eq_true rfl) dL_law_364 ⟨Nat.le_trans (Nat.add_le_add_left hm1 _) hB.1, Nat.le_trans (Nat.add_le_add_left hs1 _) hB.2⟩) (fun _ _ _ _ hf _ _ _ _ _ _ _ _ _ => hf.elim) (fun v3 S1 hf H locs cells slots hH hB => ?_)
  refine lv_istore (lv' := [(6, .int v3), (0, .ref b), (1, .ref l1), (2, .ref l2), (3, .ref l3), (4, .ref l4), (5, .int l5)]) hx hb dL_law_367 hl (by decide) rfl (fun ls hl => ?_)
  refine lv_aload_n hx hb dL_law_369 rfl (lv_at hl 3 rfl) ?_
  refine lv_aload_n hx hb dL_law_370 rfl (lv_at hl 1 rfl) ?_
  refine lv_iload hx hb dL_law_371 (lv_at hl 6 rfl) ?_
  refine lv_iconst (v := 1) hx hb dL_law_373 (by decide) ?_
  refine lv_iadd hx hb dL_law_374 ?_
  refine va_sld hx hb hX hbl hbA hH.2.2 hf.1 dL_law_375 ?_
  have hf := hf.2
  refine lv_aload_n hx hb dL_law_376 rfl (lv_at hl 1 rfl) ?_
  refine lv_iload hx hb dL_law_377 (lv_at hl 6 rfl) ?_
  refine lv_iconst (v := 2) hx hb dL_law_379 (by decide) ?_
  refine lv_iadd hx hb dL_law_380 ?_
  refine va_sld hx hb hX hbl hbA hH.2.2 hf.1 dL_law_381 ?_
  have hf := hf.2
  refine lv_aload_n hx hb dL_law_382 rfl (lv_at hl 1 rfl) ?_
  refine lv_iload hx hb dL_law_383 (lv_at hl 6 rfl) ?_
  refine lv_iconst (v := 3) hx hb dL_law_385 (by decide) ?_
  refine lv_iadd hx hb dL_law_386 ?_
  refine va_sld hx hb hX hbl hbA hH.2.2 hf.1 dL_law_387 ?_
  have hf := hf.2
  obtain ⟨hb1, hb2, hf⟩ := hf
  refine q_backI0 X hH (q_runV [.int (xs (l5 + 1).toNatClampNeg), .int (xs (l5 + 2).toNatClampNeg), .int (xs (l5 + 3).toNatClampNeg)] [] X hH hl (c_X8_bond l D cy G X.2.2.2.1 S1 l2 (xs (l5 + 1).toNatClampNeg) (xs (l5 + 2).toNatClampNeg) (xs (l5 + 3).toNatClampNeg) _ _ hf) mf_X8_bond mv_X8_bond tw_1749 ⟨Nat.le_of_ble_eq_true rfl, Nat.le_of_ble_eq_true rfl⟩ hb1 hb2 (T := TX8) (N := 25) rfl rfl (Nat.le_of_ble_eq_true rfl) dL_law_388 ⟨Nat.le_trans (Nat.le_add_right _ _) hB.1, Nat.le_trans (Nat.le_add_right _ _) hB.2⟩) (fun v5 S4 hf H locs hH => ?_)
  refine lv_istore (lv' := [(7, .int v5), (6, .int v3), (0, .ref b), (1, .ref l1), (2, .ref l2), (3, .ref l3), (4, .ref l4), (5, .int l5)]) hx hb dL_law_391 hl (by decide) rfl (fun ls hl => ?_)
  refine lv_aload_n hx hb dL_law_393 rfl (lv_at hl 4 rfl) ?_
  obtain ⟨hb1, hb2, hf⟩ := hf
  refine q_backI0 X hH (q_runV [] [] X hH hl (c_X8_thrown l D cy G X.2.2.2.1 S4 l2 _ _ hf) mf_X8_thrown mv_X8_thrown tw_1686 ⟨Nat.le_of_ble_eq_true rfl, Nat.le_of_ble_eq_true rfl⟩ hb1 hb2 (T := TX8) (N := 25) rfl rfl (Nat.le_of_ble_eq_true rfl) dL_law_394 ⟨Nat.le_trans (Nat.le_add_right _ _) hB.1, Nat.le_trans (Nat.le_add_right _ _) hB.2⟩) (fun v7 S6 hf H locs hH => ?_)
  refine lv_iload hx hb dL_law_397 (lv_at hl 1 rfl) ?_
  refine lv_icmp_eq (tgt := 404) hx hb dL_law_399 (by decide) (fun c8 => ?_) (fun c8 => ?_)
  · have hf := (if_pos c8).mp hf
    refine lv_iload hx hb dL_law_404 (lv_at hl 1 rfl) ?_
    refine lv_if_ne (tgt := 421) hx hb dL_law_406 (by decide) (fun c9 => ?_) (fun c9 => ?_)
    · have hf := (if_neg c9).mp hf
      exact hJ421 S6 (bc - mc2) (bs - ms2) l1 l2 l3 l4 l5 hf H locs ls cells slots hH (lv_sub hl [2, 3, 4, 5, 6, 7] rfl) hB
    · have hf := (if_pos c9).mp hf
      refine lv_aload_n hx hb dL_law_409 rfl (lv_at hl 5 rfl) ?_
      refine lv_iconst (v := 0) hx hb dL_law_410 (by decide) ?_
      refine q_lald X hH hf dL_law_411 (fun v10 hf => ?_)
      refine lv_iload hx hb dL_law_412 (lv_at hl 0 rfl) ?_
      refine lv_i2l (v := v5.toInt64) hx hb dL_law_414 rfl ?_
      refine W.lcmp hx hb dL_law_415 ?_
      refine lv_if_eq (tgt := 421) hx hb dL_law_416 (by decide) (fun c11 => ?_) (fun c11 => ?_)
      · have hf := (if_pos c11).mp hf
        exact hJ421 S6 (bc - mc2) (bs - ms2) l1 l2 l3 l4 l5 hf H locs ls cells slots hH (lv_sub hl [2, 3, 4, 5, 6, 7] rfl) hB
      · have hf := (if_neg c11).mp hf
        refine lv_iconst (v := 0) hx hb dL_law_419 (by decide) ?_
        exact hf.elim
  · have hf := (if_neg c8).mp hf
    refine lv_iconst (v := 0) hx hb dL_law_402 (by decide) ?_
    exact hf.elim
set_option maxHeartbeats 4000000 in
set_option maxRecDepth 100000 in
theorem jL_law_424 {p : Program} {e : Env} {s : State} {m : MethodId} {below : List Frame} {meth : Method} {c : Code} (l : Launch) (D : va_G) (cy : Nat → ClassId) (G : p_GT) (hGC : ∀ (A : Nat → Prop) (U : State) (H : Heap), G A U H → gC A U H) (hst : l.stackTraces = false) (hGE : ∀ (A : Nat → Prop) (U : State) (H : Heap), G A U H → p_Ex A U H) (hGF : ∀ (A : Nat → Prop) (U : State) (H : Heap), G A U H → gF A U H) (adK adV : Nat → Nat) (hGK : ∀ (A : Nat → Prop) (U : State) (H : Heap), G A U H → gK adK adV A U H) (hGN : ∀ (A : Nat → Prop) (U : State) (H : Heap), G A U H → gN A U H) (hGO : ∀ (A : Nat → Prop) (U : State) (H : Heap), G A U H → va_AO "VillageFeud$Village" U) (dT dO : Nat) (hGT : ∀ (A : Nat → Prop) (U : State) (H : Heap), G A U H → gT dT dO A U H) (hGU : ∀ (A : Nat → Prop) (U : State) (H : Heap), G A U H → gU A U H) (A : Nat → Prop) (b L : Nat) (xs : Nat → Int32) (X : p_X p m c cL_law 9 s #[.ref b] RL D cy G A) (hr : meth.sig.returnType = ret) (hlk : meth.locks = false) (hX : va_X b L xs s s.heap) (hbl : b < s.heap.size) (hbA : ¬ A b) (hfree : ∀ q, A q → s.heap.size ≤ q) (g28 : PS → Nat → Nat → Nat → Nat → Nat → Nat → Int32 → Prop) (ih28 : ∀ (S : PS) (bc bs : Nat) (l1 : Nat) (l2 : Nat) (l3 : Nat) (l4 : Nat) (l5 : Int32), g28 S bc bs l1 l2 l3 l4 l5 → ∀ (H : Heap) (locs : List Loc) (ls : Array Slot) (cells slots : Nat), p_H D cy S A s H locs → lv_has ls 9 [(0, .ref b), (1, .ref l1), (2, .ref l2), (3, .ref l3), (4, .ref l4), (5, .int l5)] → cells + bc ≤ room_1.cells ∧ slots + bs ≤ room_1.slots → W p l e room_1 s m #[Value.ref b] below meth c H locs cells slots (lw_Z below #[Value.ref b] s) (F0 m 28 ls [])) : ∀ (S : PS) (bc bs : Nat) (l1 : Nat) (l2 : Nat) (l3 : Nat) (l4 : Nat) (l5 : Int32), f_L_law_J424 adK L xs g28 S bc bs l1 l2 l3 l4 l5 → ∀ (H : Heap) (locs : List Loc) (ls : Array Slot) (cells slots : Nat), p_H D cy S A s H locs → lv_has ls 9 [(0, .ref b), (1, .ref l1), (2, .ref l2), (3, .ref l3), (4, .ref l4), (5, .int l5)] → cells + bc ≤ room_1.cells ∧ slots + bs ≤ room_1.slots → W p l e room_1 s m #[Value.ref b] below meth c H locs cells slots (lw_Z below #[Value.ref b] s) (F0 m 424 ls []) := by
  have hx := X.1.1
  have hb := X.1.2.1
  have hJ2561 := jL_law_2561 l D cy G hGC hst hGE hGF adK adV hGK hGN hGO dT dO hGT hGU A b L xs X hr hlk hX hbl hbA hfree g28 ih28
  intro S bc bs l1 l2 l3 l4 l5 hf H locs ls cells slots hH hl hB
  have hJ489 : ∀ (S : PS) (bc bs : Nat) (l1 : Nat) (l2 : Nat) (l3 : Nat) (l4 : Nat) (l5 : Int32), f_L_law_J489 adK L xs g28 S bc bs l1 l2 l3 l4 l5 → ∀ (H : Heap) (locs : List Loc) (ls : Array Slot) (cells slots : Nat), p_H D cy S A s H locs → lv_has ls 9 [(0, .ref b), (1, .ref l1), (2, .ref l2), (3, .ref l3), (4, .ref l4), (5, .int l5)] → cells + bc ≤ room_1.cells ∧ slots + bs ≤ room_1.slots → W p l e room_1 s m [.ref b].toArray below meth c H locs cells slots (lw_Z below #[Value.ref b] s) (F0 m 489 ls []) := by
    intro S bc bs l1 l2 l3 l4 l5 hf H locs ls cells slots hH hl hB
    refine lv_goto (tgt := 2561) hx hb dL_law_489 (by decide) ?_
    exact hJ2561 S bc bs l1 l2 l3 l4 l5 hf H locs ls cells slots hH hl hB
  refine lv_aload_n hx hb dL_law_424 rfl (lv_at hl 1 rfl) ?_
  refine lv_aload_n hx hb dL_law_425 rfl (lv_at hl 0 rfl) ?_
  refine lv_iload hx hb dL_law_426 (lv_at hl 5 rfl) ?_
  refine lv_iconst (v := 1) hx hb dL_law_428 (by decide) ?_
  refine lv_iadd hx hb dL_law_429 ?_
  refine va_sld hx hb hX hbl hbA hH.2.2 hf.1 dL_law_430 ?_
  have hf := hf.2
  refine lv_aload_n hx hb dL_law_431 rfl (lv_at hl 0 rfl) ?_
  refine lv_iload hx hb dL_law_432 (lv_at hl 5 rfl) ?_
  refine lv_iconst (v := 2) hx hb dL_law_434 (by decide) ?_
  refine lv_iadd hx hb dL_law_435 ?_
  refine va_sld hx hb hX hbl hbA hH.2.2 hf.1 dL_law_436 ?_
  have hf := hf.2
  refine lv_aload_n hx hb dL_law_437 rfl (lv_at hl 3 rfl) ?_
  obtain ⟨mc2, ms2, hm1, hs1, hf⟩ := hf
  refine q_callXi X hH hB hm1 hs1 (q_runSx [.ref l1, .int (xs (l5 + 1).toNatClampNeg), .int (xs (l5 + 2).toNatClampNeg), .ref l3] [] X hH hl (c_L_loosen l D cy G X.2.2.2.1 hst hGE S l1 (xs (l5 + 1).toNatClampNeg) (xs (l5 + 2).toNatClampNeg) l3 mc2 ms2 _ _ hf) mw_L_loosen tw_1065 tw_1064 ⟨Nat.le_of_ble_eq_true rfl, Nat.le_of_ble_eq_true rfl⟩ rfl (Nat.le_of_ble_eq_true rfl) dL_law_438 ⟨Nat.le_trans (Nat.add_le_add_left hm1 _) hB.1, Nat.le_trans (Nat.add_le_add_left hs1 _) hB.2⟩) (fun _ _ _ _ hf _ _ _ _ _ _ _ _ _ => hf.elim) (fun v3 S1 hf H locs cells slots hH hB => ?_)
  refine lv_istore (lv' := [(6, .int v3), (0, .ref b), (1, .ref l1), (2, .ref l2), (3, .ref l3), (4, .ref l4), (5, .int l5)]) hx hb dL_law_441 hl (by decide) rfl (fun ls hl => ?_)
  refine lv_aload_n hx hb dL_law_443 rfl (lv_at hl 3 rfl) ?_
  refine lv_aload_n hx hb dL_law_444 rfl (lv_at hl 1 rfl) ?_
  refine lv_iload hx hb dL_law_445 (lv_at hl 6 rfl) ?_
  refine lv_iconst (v := 1) hx hb dL_law_447 (by decide) ?_
  refine lv_iadd hx hb dL_law_448 ?_
  refine va_sld hx hb hX hbl hbA hH.2.2 hf.1 dL_law_449 ?_
  have hf := hf.2
  refine lv_aload_n hx hb dL_law_450 rfl (lv_at hl 1 rfl) ?_
  refine lv_iload hx hb dL_law_451 (lv_at hl 6 rfl) ?_
  refine lv_iconst (v := 2) hx hb dL_law_453 (by decide) ?_
  refine lv_iadd hx hb dL_law_454 ?_
  refine va_sld hx hb hX hbl hbA hH.2.2 hf.1 dL_law_455 ?_
  have hf := hf.2
  obtain ⟨hb1, hb2, hf⟩ := hf
  refine q_backI0 X hH (q_runV [.int (xs (l5 + 1).toNatClampNeg), .int (xs (l5 + 2).toNatClampNeg)] [] X hH hl (c_X8_loosen l D cy G X.2.2.2.1 S1 l2 (xs (l5 + 1).toNatClampNeg) (xs (l5 + 2).toNatClampNeg) _ _ hf) mf_X8_loosen mv_X8_loosen tw_1761 ⟨Nat.le_of_ble_eq_true rfl, Nat.le_of_ble_eq_true rfl⟩ hb1 hb2 (T := TX8) (N := 25) rfl rfl (Nat.le_of_ble_eq_true rfl) dL_law_456 ⟨Nat.le_trans (Nat.le_add_right _ _) hB.1, Nat.le_trans (Nat.le_add_right _ _) hB.2⟩) (fun v5 S4 hf H locs hH => ?_)
  refine lv_istore (lv' := [(7, .int v5), (6, .int v3), (0, .ref b), (1, .ref l1), (2, .ref l2), (3, .ref l3), (4, .ref l4), (5, .int l5)]) hx hb dL_law_459 hl (by decide) rfl (fun ls hl => ?_)
  refine lv_aload_n hx hb dL_law_461 rfl (lv_at hl 4 rfl) ?_
  obtain ⟨hb1, hb2, hf⟩ := hf
  refine q_backI0 X hH (q_runV [] [] X hH hl (c_X8_thrown l D cy G X.2.2.2.1 S4 l2 _ _ hf) mf_X8_thrown mv_X8_thrown tw_1686 ⟨Nat.le_of_ble_eq_true rfl, Nat.le_of_ble_eq_true rfl⟩ hb1 hb2 (T := TX8) (N := 25) rfl rfl (Nat.le_of_ble_eq_true rfl) dL_law_462 ⟨Nat.le_trans (Nat.le_add_right _ _) hB.1, Nat.le_trans (Nat.le_add_right _ _) hB.2⟩) (fun v7 S6 hf H locs hH => ?_)
  refine lv_iload hx hb dL_law_465 (lv_at hl 1 rfl) ?_
  refine lv_icmp_eq (tgt := 472) hx hb dL_law_467 (by decide) (fun c8 => ?_) (fun c8 => ?_)
  · have hf := (if_pos c8).mp hf
    refine lv_iload hx hb dL_law_472 (lv_at hl 1 rfl) ?_
    refine lv_if_ne (tgt := 489) hx hb dL_law_474 (by decide) (fun c9 => ?_) (fun c9 => ?_)
    · have hf := (if_neg c9).mp hf
      exact hJ489 S6 (bc - mc2) (bs - ms2) l1 l2 l3 l4 l5 hf H locs ls cells slots hH (lv_sub hl [2, 3, 4, 5, 6, 7] rfl) hB
    · have hf := (if_pos c9).mp hf
      refine lv_aload_n hx hb dL_law_477 rfl (lv_at hl 5 rfl) ?_
      refine lv_iconst (v := 0) hx hb dL_law_478 (by decide) ?_
      refine q_lald X hH hf dL_law_479 (fun v10 hf => ?_)
      refine lv_iload hx hb dL_law_480 (lv_at hl 0 rfl) ?_
      refine lv_i2l (v := v5.toInt64) hx hb dL_law_482 rfl ?_
      refine W.lcmp hx hb dL_law_483 ?_
      refine lv_if_eq (tgt := 489) hx hb dL_law_484 (by decide) (fun c11 => ?_) (fun c11 => ?_)
      · have hf := (if_pos c11).mp hf
        exact hJ489 S6 (bc - mc2) (bs - ms2) l1 l2 l3 l4 l5 hf H locs ls cells slots hH (lv_sub hl [2, 3, 4, 5, 6, 7] rfl) hB
      · have hf := (if_neg c11).mp hf
        refine lv_iconst (v := 0) hx hb dL_law_487 (by decide) ?_
        exact hf.elim
  · have hf := (if_neg c8).mp hf
    refine lv_iconst (v := 0) hx hb dL_law_470 (by decide) ?_
    exact hf.elim
set_option maxHeartbeats 4000000 in
set_option maxRecDepth 100000 in
theorem jL_law_492 {p : Program} {e : Env} {s : State} {m : MethodId} {below : List Frame} {meth : Method} {c : Code} (l : Launch) (D : va_G) (cy : Nat → ClassId) (G : p_GT) (hGC : ∀ (A : Nat → Prop) (U : State) (H : Heap), G A U H → gC A U H) (hst : l.stackTraces = false) (hGE : ∀ (A : Nat → Prop) (U : State) (H : Heap), G A U H → p_Ex A U H) (hGF : ∀ (A : Nat → Prop) (U : State) (H : Heap), G A U H → gF A U H) (adK adV : Nat → Nat) (hGK : ∀ (A : Nat → Prop) (U : State) (H : Heap), G A U H → gK adK adV A U H) (hGN : ∀ (A : Nat → Prop) (U : State) (H : Heap), G A U H → gN A U H) (hGO : ∀ (A : Nat → Prop) (U : State) (H : Heap), G A U H → va_AO "VillageFeud$Village" U) (dT dO : Nat) (hGT : ∀ (A : Nat → Prop) (U : State) (H : Heap), G A U H → gT dT dO A U H) (hGU : ∀ (A : Nat → Prop) (U : State) (H : Heap), G A U H → gU A U H) (A : Nat → Prop) (b L : Nat) (xs : Nat → Int32) (X : p_X p m c cL_law 9 s #[.ref b] RL D cy G A) (hr : meth.sig.returnType = ret) (hlk : meth.locks = false) (hX : va_X b L xs s s.heap) (hbl : b < s.heap.size) (hbA : ¬ A b) (hfree : ∀ q, A q → s.heap.size ≤ q) (g28 : PS → Nat → Nat → Nat → Nat → Nat → Nat → Int32 → Prop) (ih28 : ∀ (S : PS) (bc bs : Nat) (l1 : Nat) (l2 : Nat) (l3 : Nat) (l4 : Nat) (l5 : Int32), g28 S bc bs l1 l2 l3 l4 l5 → ∀ (H : Heap) (locs : List Loc) (ls : Array Slot) (cells slots : Nat), p_H D cy S A s H locs → lv_has ls 9 [(0, .ref b), (1, .ref l1), (2, .ref l2), (3, .ref l3), (4, .ref l4), (5, .int l5)] → cells + bc ≤ room_1.cells ∧ slots + bs ≤ room_1.slots → W p l e room_1 s m #[Value.ref b] below meth c H locs cells slots (lw_Z below #[Value.ref b] s) (F0 m 28 ls [])) : ∀ (S : PS) (bc bs : Nat) (l1 : Nat) (l2 : Nat) (l3 : Nat) (l4 : Nat) (l5 : Int32), f_L_law_J492 adK L xs g28 S bc bs l1 l2 l3 l4 l5 → ∀ (H : Heap) (locs : List Loc) (ls : Array Slot) (cells slots : Nat), p_H D cy S A s H locs → lv_has ls 9 [(0, .ref b), (1, .ref l1), (2, .ref l2), (3, .ref l3), (4, .ref l4), (5, .int l5)] → cells + bc ≤ room_1.cells ∧ slots + bs ≤ room_1.slots → W p l e room_1 s m #[Value.ref b] below meth c H locs cells slots (lw_Z below #[Value.ref b] s) (F0 m 492 ls []) := by
  have hx := X.1.1
  have hb := X.1.2.1
  have hJ2561 := jL_law_2561 l D cy G hGC hst hGE hGF adK adV hGK hGN hGO dT dO hGT hGU A b L xs X hr hlk hX hbl hbA hfree g28 ih28
  intro S bc bs l1 l2 l3 l4 l5 hf H locs ls cells slots hH hl hB
  have hJ557 : ∀ (S : PS) (bc bs : Nat) (l1 : Nat) (l2 : Nat) (l3 : Nat) (l4 : Nat) (l5 : Int32), f_L_law_J557 adK L xs g28 S bc bs l1 l2 l3 l4 l5 → ∀ (H : Heap) (locs : List Loc) (ls : Array Slot) (cells slots : Nat), p_H D cy S A s H locs → lv_has ls 9 [(0, .ref b), (1, .ref l1), (2, .ref l2), (3, .ref l3), (4, .ref l4), (5, .int l5)] → cells + bc ≤ room_1.cells ∧ slots + bs ≤ room_1.slots → W p l e room_1 s m [.ref b].toArray below meth c H locs cells slots (lw_Z below #[Value.ref b] s) (F0 m 557 ls []) := by
    intro S bc bs l1 l2 l3 l4 l5 hf H locs ls cells slots hH hl hB
    refine lv_goto (tgt := 2561) hx hb dL_law_557 (by decide) ?_
    exact hJ2561 S bc bs l1 l2 l3 l4 l5 hf H locs ls cells slots hH hl hB
  refine lv_aload_n hx hb dL_law_492 rfl (lv_at hl 1 rfl) ?_
  refine lv_aload_n hx hb dL_law_493 rfl (lv_at hl 0 rfl) ?_
  refine lv_iload hx hb dL_law_494 (lv_at hl 5 rfl) ?_
  refine lv_iconst (v := 1) hx hb dL_law_496 (by decide) ?_
  refine lv_iadd hx hb dL_law_497 ?_
  refine va_sld hx hb hX hbl hbA hH.2.2 hf.1 dL_law_498 ?_
  have hf := hf.2
  refine lv_aload_n hx hb dL_law_499 rfl (lv_at hl 0 rfl) ?_
  refine lv_iload hx hb dL_law_500 (lv_at hl 5 rfl) ?_
  refine lv_iconst (v := 2) hx hb dL_law_502 (by decide) ?_
  refine lv_iadd hx hb dL_law_503 ?_
  refine va_sld hx hb hX hbl hbA hH.2.2 hf.1 dL_law_504 ?_
  have hf := hf.2
  refine lv_aload_n hx hb dL_law_505 rfl (lv_at hl 3 rfl) ?_
  obtain ⟨mc2, ms2, hm1, hs1, hf⟩ := hf
  refine q_callXi X hH hB hm1 hs1 (q_runSx [.ref l1, .int (xs (l5 + 1).toNatClampNeg), .int (xs (l5 + 2).toNatClampNeg), .ref l3] [] X hH hl (c_L_marry l D cy G X.2.2.2.1 hst hGE S l1 (xs (l5 + 1).toNatClampNeg) (xs (l5 + 2).toNatClampNeg) l3 mc2 ms2 _ _ hf) mw_L_marry tw_1073 tw_1072 ⟨Nat.le_of_ble_eq_true rfl, Nat.le_of_ble_eq_true rfl⟩ rfl (Nat.le_of_ble_eq_true rfl) dL_law_506 ⟨Nat.le_trans (Nat.add_le_add_left hm1 _) hB.1, Nat.le_trans (Nat.add_le_add_left hs1 _) hB.2⟩) (fun _ _ _ _ hf _ _ _ _ _ _ _ _ _ => hf.elim) (fun v3 S1 hf H locs cells slots hH hB => ?_)
  refine lv_istore (lv' := [(6, .int v3), (0, .ref b), (1, .ref l1), (2, .ref l2), (3, .ref l3), (4, .ref l4), (5, .int l5)]) hx hb dL_law_509 hl (by decide) rfl (fun ls hl => ?_)
  refine lv_aload_n hx hb dL_law_511 rfl (lv_at hl 3 rfl) ?_
  refine lv_aload_n hx hb dL_law_512 rfl (lv_at hl 1 rfl) ?_
  refine lv_iload hx hb dL_law_513 (lv_at hl 6 rfl) ?_
  refine lv_iconst (v := 1) hx hb dL_law_515 (by decide) ?_
  refine lv_iadd hx hb dL_law_516 ?_
  refine va_sld hx hb hX hbl hbA hH.2.2 hf.1 dL_law_517 ?_
  have hf := hf.2
  refine lv_aload_n hx hb dL_law_518 rfl (lv_at hl 1 rfl) ?_
  refine lv_iload hx hb dL_law_519 (lv_at hl 6 rfl) ?_
  refine lv_iconst (v := 2) hx hb dL_law_521 (by decide) ?_
  refine lv_iadd hx hb dL_law_522 ?_
  refine va_sld hx hb hX hbl hbA hH.2.2 hf.1 dL_law_523 ?_
  have hf := hf.2
  obtain ⟨hb1, hb2, hf⟩ := hf
  refine q_backI0 X hH (q_runV [.int (xs (l5 + 1).toNatClampNeg), .int (xs (l5 + 2).toNatClampNeg)] [] X hH hl (c_X8_marry l D cy G X.2.2.2.1 S1 l2 (xs (l5 + 1).toNatClampNeg) (xs (l5 + 2).toNatClampNeg) _ _ hf) mf_X8_marry mv_X8_marry tw_1777 ⟨Nat.le_of_ble_eq_true rfl, Nat.le_of_ble_eq_true rfl⟩ hb1 hb2 (T := TX8) (N := 25) rfl rfl (Nat.le_of_ble_eq_true rfl) dL_law_524 ⟨Nat.le_trans (Nat.le_add_right _ _) hB.1, Nat.le_trans (Nat.le_add_right _ _) hB.2⟩) (fun v5 S4 hf H locs hH => ?_)
  refine lv_istore (lv' := [(7, .int v5), (6, .int v3), (0, .ref b), (1, .ref l1), (2, .ref l2), (3, .ref l3), (4, .ref l4), (5, .int l5)]) hx hb dL_law_527 hl (by decide) rfl (fun ls hl => ?_)
  refine lv_aload_n hx hb dL_law_529 rfl (lv_at hl 4 rfl) ?_
  obtain ⟨hb1, hb2, hf⟩ := hf
  refine q_backI0 X hH (q_runV [] [] X hH hl (c_X8_thrown l D cy G X.2.2.2.1 S4 l2 _ _ hf) mf_X8_thrown mv_X8_thrown tw_1686 ⟨Nat.le_of_ble_eq_true rfl, Nat.le_of_ble_eq_true rfl⟩ hb1 hb2 (T := TX8) (N := 25) rfl rfl (Nat.le_of_ble_eq_true rfl) dL_law_530 ⟨Nat.le_trans (Nat.le_add_right _ _) hB.1, Nat.le_trans (Nat.le_add_right _ _) hB.2⟩) (fun v7 S6 hf H locs hH => ?_)
  refine lv_iload hx hb dL_law_533 (lv_at hl 1 rfl) ?_
  refine lv_icmp_eq (tgt := 540) hx hb dL_law_535 (by decide) (fun c8 => ?_) (fun c8 => ?_)
  · have hf := (if_pos c8).mp hf
    refine lv_iload hx hb dL_law_540 (lv_at hl 1 rfl) ?_
    refine lv_if_ne (tgt := 557) hx hb dL_law_542 (by decide) (fun c9 => ?_) (fun c9 => ?_)
    · have hf := (if_neg c9).mp hf
      exact hJ557 S6 (bc - mc2) (bs - ms2) l1 l2 l3 l4 l5 hf H locs ls cells slots hH (lv_sub hl [2, 3, 4, 5, 6, 7] rfl) hB
    · have hf := (if_pos c9).mp hf
      refine lv_aload_n hx hb dL_law_545 rfl (lv_at hl 5 rfl) ?_
      refine lv_iconst (v := 0) hx hb dL_law_546 (by decide) ?_
      refine q_lald X hH hf dL_law_547 (fun v10 hf => ?_)
      refine lv_iload hx hb dL_law_548 (lv_at hl 0 rfl) ?_
      refine lv_i2l (v := v5.toInt64) hx hb dL_law_550 rfl ?_
      refine W.lcmp hx hb dL_law_551 ?_
      refine lv_if_eq (tgt := 557) hx hb dL_law_552 (by decide) (fun c11 => ?_) (fun c11 => ?_)
      · have hf := (if_pos c11).mp hf
        exact hJ557 S6 (bc - mc2) (bs - ms2) l1 l2 l3 l4 l5 hf H locs ls cells slots hH (lv_sub hl [2, 3, 4, 5, 6, 7] rfl) hB
      · have hf := (if_neg c11).mp hf
        refine lv_iconst (v := 0) hx hb dL_law_555 (by decide) ?_
        exact hf.elim
  · have hf := (if_neg c8).mp hf
    refine lv_iconst (v := 0) hx hb dL_law_538 (by decide) ?_
    exact hf.elim
set_option maxHeartbeats 4000000 in
set_option maxRecDepth 100000 in
theorem jL_law_560 {p : Program} {e : Env} {s : State} {m : MethodId} {below : List Frame} {meth : Method} {c : Code} (l : Launch) (D : va_G) (cy : Nat → ClassId) (G : p_GT) (hGC : ∀ (A : Nat → Prop) (U : State) (H : Heap), G A U H → gC A U H) (hst : l.stackTraces = false) (hGE : ∀ (A : Nat → Prop) (U : State) (H : Heap), G A U H → p_Ex A U H) (hGF : ∀ (A : Nat → Prop) (U : State) (H : Heap), G A U H → gF A U H) (adK adV : Nat → Nat) (hGK : ∀ (A : Nat → Prop) (U : State) (H : Heap), G A U H → gK adK adV A U H) (hGN : ∀ (A : Nat → Prop) (U : State) (H : Heap), G A U H → gN A U H) (hGO : ∀ (A : Nat → Prop) (U : State) (H : Heap), G A U H → va_AO "VillageFeud$Village" U) (dT dO : Nat) (hGT : ∀ (A : Nat → Prop) (U : State) (H : Heap), G A U H → gT dT dO A U H) (hGU : ∀ (A : Nat → Prop) (U : State) (H : Heap), G A U H → gU A U H) (A : Nat → Prop) (b L : Nat) (xs : Nat → Int32) (X : p_X p m c cL_law 9 s #[.ref b] RL D cy G A) (hr : meth.sig.returnType = ret) (hlk : meth.locks = false) (hX : va_X b L xs s s.heap) (hbl : b < s.heap.size) (hbA : ¬ A b) (hfree : ∀ q, A q → s.heap.size ≤ q) (g28 : PS → Nat → Nat → Nat → Nat → Nat → Nat → Int32 → Prop) (ih28 : ∀ (S : PS) (bc bs : Nat) (l1 : Nat) (l2 : Nat) (l3 : Nat) (l4 : Nat) (l5 : Int32), g28 S bc bs l1 l2 l3 l4 l5 → ∀ (H : Heap) (locs : List Loc) (ls : Array Slot) (cells slots : Nat), p_H D cy S A s H locs → lv_has ls 9 [(0, .ref b), (1, .ref l1), (2, .ref l2), (3, .ref l3), (4, .ref l4), (5, .int l5)] → cells + bc ≤ room_1.cells ∧ slots + bs ≤ room_1.slots → W p l e room_1 s m #[Value.ref b] below meth c H locs cells slots (lw_Z below #[Value.ref b] s) (F0 m 28 ls [])) : ∀ (S : PS) (bc bs : Nat) (l1 : Nat) (l2 : Nat) (l3 : Nat) (l4 : Nat) (l5 : Int32), f_L_law_J560 adK L xs g28 S bc bs l1 l2 l3 l4 l5 → ∀ (H : Heap) (locs : List Loc) (ls : Array Slot) (cells slots : Nat), p_H D cy S A s H locs → lv_has ls 9 [(0, .ref b), (1, .ref l1), (2, .ref l2), (3, .ref l3), (4, .ref l4), (5, .int l5)] → cells + bc ≤ room_1.cells ∧ slots + bs ≤ room_1.slots → W p l e room_1 s m #[Value.ref b] below meth c H locs cells slots (lw_Z below #[Value.ref b] s) (F0 m 560 ls []) := by
  have hx := X.1.1
  have hb := X.1.2.1
  have hJ2561 := jL_law_2561 l D cy G hGC hst hGE hGF adK adV hGK hGN hGO dT dO hGT hGU A b L xs X hr hlk hX hbl hbA hfree g28 ih28
  intro S bc bs l1 l2 l3 l4 l5 hf H locs ls cells slots hH hl hB
  have hJ625 : ∀ (S : PS) (bc bs : Nat) (l1 : Nat) (l2 : Nat) (l3 : Nat) (l4 : Nat) (l5 : Int32), f_L_law_J625 adK L xs g28 S bc bs l1 l2 l3 l4 l5 → ∀ (H : Heap) (locs : List Loc) (ls : Array Slot) (cells slots : Nat), p_H D cy S A s H locs → lv_has ls 9 [(0, .ref b), (1, .ref l1), (2, .ref l2), (3, .ref l3), (4, .ref l4), (5, .int l5)] → cells + bc ≤ room_1.cells ∧ slots + bs ≤ room_1.slots → W p l e room_1 s m [.ref b].toArray below meth c H locs cells slots (lw_Z below #[Value.ref b] s) (F0 m 625 ls []) := by
    intro S bc bs l1 l2 l3 l4 l5 hf H locs ls cells slots hH hl hB
    refine lv_goto (tgt := 2561) hx hb dL_law_625 (by decide) ?_
    exact hJ2561 S bc bs l1 l2 l3 l4 l5 hf H locs ls cells slots hH hl hB
  refine lv_aload_n hx hb dL_law_560 rfl (lv_at hl 1 rfl) ?_
  refine lv_aload_n hx hb dL_law_561 rfl (lv_at hl 0 rfl) ?_
  refine lv_iload hx hb dL_law_562 (lv_at hl 5 rfl) ?_
  refine lv_iconst (v := 1) hx hb dL_law_564 (by decide) ?_
  refine lv_iadd hx hb dL_law_565 ?_
  refine va_sld hx hb hX hbl hbA hH.2.2 hf.1 dL_law_566 ?_
  have hf := hf.2
  refine lv_aload_n hx hb dL_law_567 rfl (lv_at hl 0 rfl) ?_
  refine lv_iload hx hb dL_law_568 (lv_at hl 5 rfl) ?_
  refine lv_iconst (v := 2) hx hb dL_law_570 (by decide) ?_
  refine lv_iadd hx hb dL_law_571 ?_
  refine va_sld hx hb hX hbl hbA hH.2.2 hf.1 dL_law_572 ?_
  have hf := hf.2
  refine lv_aload_n hx hb dL_law_573 rfl (lv_at hl 3 rfl) ?_
  obtain ⟨mc2, ms2, hm1, hs1, hf⟩ := hf
  refine q_callXi X hH hB hm1 hs1 (q_runSx [.ref l1, .int (xs (l5 + 1).toNatClampNeg), .int (xs (l5 + 2).toNatClampNeg), .ref l3] [] X hH hl (c_L_stand l D cy G X.2.2.2.1 hst hGE S l1 (xs (l5 + 1).toNatClampNeg) (xs (l5 + 2).toNatClampNeg) l3 mc2 ms2 _ _ hf) mw_L_stand tw_1081 tw_1080 ⟨Nat.le_of_ble_eq_true rfl, Nat.le_of_ble_eq_true rfl⟩ rfl (Nat.le_of_ble_eq_true rfl) dL_law_574 ⟨Nat.le_trans (Nat.add_le_add_left hm1 _) hB.1, Nat.le_trans (Nat.add_le_add_left hs1 _) hB.2⟩) (fun _ _ _ _ hf _ _ _ _ _ _ _ _ _ => hf.elim) (fun v3 S1 hf H locs cells slots hH hB => ?_)
  refine lv_istore (lv' := [(6, .int v3), (0, .ref b), (1, .ref l1), (2, .ref l2), (3, .ref l3), (4, .ref l4), (5, .int l5)]) hx hb dL_law_577 hl (by decide) rfl (fun ls hl => ?_)
  refine lv_aload_n hx hb dL_law_579 rfl (lv_at hl 3 rfl) ?_
  refine lv_aload_n hx hb dL_law_580 rfl (lv_at hl 1 rfl) ?_
  refine lv_iload hx hb dL_law_581 (lv_at hl 6 rfl) ?_
  refine lv_iconst (v := 1) hx hb dL_law_583 (by decide) ?_
  refine lv_iadd hx hb dL_law_584 ?_
  refine va_sld hx hb hX hbl hbA hH.2.2 hf.1 dL_law_585 ?_
  have hf := hf.2
  refine lv_aload_n hx hb dL_law_586 rfl (lv_at hl 1 rfl) ?_
  refine lv_iload hx hb dL_law_587 (lv_at hl 6 rfl) ?_
  refine lv_iconst (v := 2) hx hb dL_law_589 (by decide) ?_
  refine lv_iadd hx hb dL_law_590 ?_
  refine va_sld hx hb hX hbl hbA hH.2.2 hf.1 dL_law_591 ?_
  have hf := hf.2
  obtain ⟨hb1, hb2, hf⟩ := hf
  refine q_backI0 X hH (q_runV [.int (xs (l5 + 1).toNatClampNeg), .int (xs (l5 + 2).toNatClampNeg)] [] X hH hl (c_X8_stand l D cy G X.2.2.2.1 S1 l2 (xs (l5 + 1).toNatClampNeg) (xs (l5 + 2).toNatClampNeg) _ _ hf) mf_X8_stand mv_X8_stand tw_1785 ⟨Nat.le_of_ble_eq_true rfl, Nat.le_of_ble_eq_true rfl⟩ hb1 hb2 (T := TX8) (N := 25) rfl rfl (Nat.le_of_ble_eq_true rfl) dL_law_592 ⟨Nat.le_trans (Nat.le_add_right _ _) hB.1, Nat.le_trans (Nat.le_add_right _ _) hB.2⟩) (fun v5 S4 hf H locs hH => ?_)
  refine lv_istore (lv' := [(7, .int v5), (6, .int v3), (0, .ref b), (1, .ref l1), (2, .ref l2), (3, .ref l3), (4, .ref l4), (5, .int l5)]) hx hb dL_law_595 hl (by decide) rfl (fun ls hl => ?_)
  refine lv_aload_n hx hb dL_law_597 rfl (lv_at hl 4 rfl) ?_
  obtain ⟨hb1, hb2, hf⟩ := hf
  refine q_backI0 X hH (q_runV [] [] X hH hl (c_X8_thrown l D cy G X.2.2.2.1 S4 l2 _ _ hf) mf_X8_thrown mv_X8_thrown tw_1686 ⟨Nat.le_of_ble_eq_true rfl, Nat.le_of_ble_eq_true rfl⟩ hb1 hb2 (T := TX8) (N := 25) rfl rfl (Nat.le_of_ble_eq_true rfl) dL_law_598 ⟨Nat.le_trans (Nat.le_add_right _ _) hB.1, Nat.le_trans (Nat.le_add_right _ _) hB.2⟩) (fun v7 S6 hf H locs hH => ?_)
  refine lv_iload hx hb dL_law_601 (lv_at hl 1 rfl) ?_
  refine lv_icmp_eq (tgt := 608) hx hb dL_law_603 (by decide) (fun c8 => ?_) (fun c8 => ?_)
  · have hf := (if_pos c8).mp hf
    refine lv_iload hx hb dL_law_608 (lv_at hl 1 rfl) ?_
    refine lv_if_ne (tgt := 625) hx hb dL_law_610 (by decide) (fun c9 => ?_) (fun c9 => ?_)
    · have hf := (if_neg c9).mp hf
      exact hJ625 S6 (bc - mc2) (bs - ms2) l1 l2 l3 l4 l5 hf H locs ls cells slots hH (lv_sub hl [2, 3, 4, 5, 6, 7] rfl) hB
    · have hf := (if_pos c9).mp hf
      refine lv_aload_n hx hb dL_law_613 rfl (lv_at hl 5 rfl) ?_
      refine lv_iconst (v := 0) hx hb dL_law_614 (by decide) ?_
      refine q_lald X hH hf dL_law_615 (fun v10 hf => ?_)
      refine lv_iload hx hb dL_law_616 (lv_at hl 0 rfl) ?_
      refine lv_i2l (v := v5.toInt64) hx hb dL_law_618 rfl ?_
      refine W.lcmp hx hb dL_law_619 ?_
      refine lv_if_eq (tgt := 625) hx hb dL_law_620 (by decide) (fun c11 => ?_) (fun c11 => ?_)
      · have hf := (if_pos c11).mp hf
        exact hJ625 S6 (bc - mc2) (bs - ms2) l1 l2 l3 l4 l5 hf H locs ls cells slots hH (lv_sub hl [2, 3, 4, 5, 6, 7] rfl) hB
      · have hf := (if_neg c11).mp hf
        refine lv_iconst (v := 0) hx hb dL_law_623 (by decide) ?_
        exact hf.elim
  · have hf := (if_neg c8).mp hf
    refine lv_iconst (v := 0) hx hb dL_law_606 (by decide) ?_
    exact hf.elim
set_option maxHeartbeats 4000000 in
set_option maxRecDepth 100000 in
theorem jL_law_628 {p : Program} {e : Env} {s : State} {m : MethodId} {below : List Frame} {meth : Method} {c : Code} (l : Launch) (D : va_G) (cy : Nat → ClassId) (G : p_GT) (hGC : ∀ (A : Nat → Prop) (U : State) (H : Heap), G A U H → gC A U H) (hst : l.stackTraces = false) (hGE : ∀ (A : Nat → Prop) (U : State) (H : Heap), G A U H → p_Ex A U H) (hGF : ∀ (A : Nat → Prop) (U : State) (H : Heap), G A U H → gF A U H) (adK adV : Nat → Nat) (hGK : ∀ (A : Nat → Prop) (U : State) (H : Heap), G A U H → gK adK adV A U H) (hGN : ∀ (A : Nat → Prop) (U : State) (H : Heap), G A U H → gN A U H) (hGO : ∀ (A : Nat → Prop) (U : State) (H : Heap), G A U H → va_AO "VillageFeud$Village" U) (dT dO : Nat) (hGT : ∀ (A : Nat → Prop) (U : State) (H : Heap), G A U H → gT dT dO A U H) (hGU : ∀ (A : Nat → Prop) (U : State) (H : Heap), G A U H → gU A U H) (A : Nat → Prop) (b L : Nat) (xs : Nat → Int32) (X : p_X p m c cL_law 9 s #[.ref b] RL D cy G A) (hr : meth.sig.returnType = ret) (hlk : meth.locks = false) (hX : va_X b L xs s s.heap) (hbl : b < s.heap.size) (hbA : ¬ A b) (hfree : ∀ q, A q → s.heap.size ≤ q) (g28 : PS → Nat → Nat → Nat → Nat → Nat → Nat → Int32 → Prop) (ih28 : ∀ (S : PS) (bc bs : Nat) (l1 : Nat) (l2 : Nat) (l3 : Nat) (l4 : Nat) (l5 : Int32), g28 S bc bs l1 l2 l3 l4 l5 → ∀ (H : Heap) (locs : List Loc) (ls : Array Slot) (cells slots : Nat), p_H D cy S A s H locs → lv_has ls 9 [(0, .ref b), (1, .ref l1), (2, .ref l2), (3, .ref l3), (4, .ref l4), (5, .int l5)] → cells + bc ≤ room_1.cells ∧ slots + bs ≤ room_1.slots → W p l e room_1 s m #[Value.ref b] below meth c H locs cells slots (lw_Z below #[Value.ref b] s) (F0 m 28 ls [])) : ∀ (S : PS) (bc bs : Nat) (l1 : Nat) (l2 : Nat) (l3 : Nat) (l4 : Nat) (l5 : Int32), f_L_law_J628 adK L xs g28 S bc bs l1 l2 l3 l4 l5 → ∀ (H : Heap) (locs : List Loc) (ls : Array Slot) (cells slots : Nat), p_H D cy S A s H locs → lv_has ls 9 [(0, .ref b), (1, .ref l1), (2, .ref l2), (3, .ref l3), (4, .ref l4), (5, .int l5)] → cells + bc ≤ room_1.cells ∧ slots + bs ≤ room_1.slots → W p l e room_1 s m #[Value.ref b] below meth c H locs cells slots (lw_Z below #[Value.ref b] s) (F0 m 628 ls []) := by
  have hx := X.1.1
  have hb := X.1.2.1
  have hJ2561 := jL_law_2561 l D cy G hGC hst hGE hGF adK adV hGK hGN hGO dT dO hGT hGU A b L xs X hr hlk hX hbl hbA hfree g28 ih28
  intro S bc bs l1 l2 l3 l4 l5 hf H locs ls cells slots hH hl hB
  have hJ669 : ∀ (S : PS) (bc bs : Nat) (l1 : Nat) (l2 : Nat) (l3 : Nat) (l4 : Nat) (l5 : Int32), f_L_law_J669 adK L xs g28 S bc bs l1 l2 l3 l4 l5 → ∀ (H : Heap) (locs : List Loc) (ls : Array Slot) (cells slots : Nat), p_H D cy S A s H locs → lv_has ls 9 [(0, .ref b), (1, .ref l1), (2, .ref l2), (3, .ref l3), (4, .ref l4), (5, .int l5)] → cells + bc ≤ room_1.cells ∧ slots + bs ≤ room_1.slots → W p l e room_1 s m [.ref b].toArray below meth c H locs cells slots (lw_Z below #[Value.ref b] s) (F0 m 669 ls []) := by
    intro S bc bs l1 l2 l3 l4 l5 hf H locs ls cells slots hH hl hB
    refine lv_goto (tgt := 2561) hx hb dL_law_669 (by decide) ?_
    exact hJ2561 S bc bs l1 l2 l3 l4 l5 hf H locs ls cells slots hH hl hB
  refine lv_aload_n hx hb dL_law_628 rfl (lv_at hl 1 rfl) ?_
  refine lv_aload_n hx hb dL_law_629 rfl (lv_at hl 3 rfl) ?_
  obtain ⟨mc2, ms2, hm1, hs1, hf⟩ := hf
  refine q_callXi X hH hB hm1 hs1 (q_runSx [.ref l1, .ref l3] [] X hH hl (c_L_part l D cy G X.2.2.2.1 hst hGE S l1 l3 mc2 ms2 _ _ hf) mw_L_part tw_1089 tw_1088 ⟨Nat.le_of_ble_eq_true rfl, Nat.le_of_ble_eq_true rfl⟩ rfl (Nat.le_of_ble_eq_true rfl) dL_law_630 ⟨Nat.le_trans (Nat.add_le_add_left hm1 _) hB.1, Nat.le_trans (Nat.add_le_add_left hs1 _) hB.2⟩) (fun _ _ _ _ hf _ _ _ _ _ _ _ _ _ => hf.elim) (fun v3 S1 hf H locs cells slots hH hB => ?_)
  refine lv_istore (lv' := [(6, .int v3), (0, .ref b), (1, .ref l1), (2, .ref l2), (3, .ref l3), (4, .ref l4), (5, .int l5)]) hx hb dL_law_633 hl (by decide) rfl (fun ls hl => ?_)
  refine lv_aload_n hx hb dL_law_635 rfl (lv_at hl 3 rfl) ?_
  obtain ⟨hb1, hb2, hf⟩ := hf
  refine q_backI0 X hH (q_runV [] [] X hH hl (c_X8_part l D cy G X.2.2.2.1 S1 l2 _ _ hf) mf_X8_part mv_X8_part tw_1812 ⟨Nat.le_of_ble_eq_true rfl, Nat.le_of_ble_eq_true rfl⟩ hb1 hb2 (T := TX8) (N := 25) rfl rfl (Nat.le_of_ble_eq_true rfl) dL_law_636 ⟨Nat.le_trans (Nat.le_add_right _ _) hB.1, Nat.le_trans (Nat.le_add_right _ _) hB.2⟩) (fun v5 S4 hf H locs hH => ?_)
  refine lv_istore (lv' := [(7, .int v5), (6, .int v3), (0, .ref b), (1, .ref l1), (2, .ref l2), (3, .ref l3), (4, .ref l4), (5, .int l5)]) hx hb dL_law_639 hl (by decide) rfl (fun ls hl => ?_)
  refine lv_aload_n hx hb dL_law_641 rfl (lv_at hl 4 rfl) ?_
  obtain ⟨hb1, hb2, hf⟩ := hf
  refine q_backI0 X hH (q_runV [] [] X hH hl (c_X8_thrown l D cy G X.2.2.2.1 S4 l2 _ _ hf) mf_X8_thrown mv_X8_thrown tw_1686 ⟨Nat.le_of_ble_eq_true rfl, Nat.le_of_ble_eq_true rfl⟩ hb1 hb2 (T := TX8) (N := 25) rfl rfl (Nat.le_of_ble_eq_true rfl) dL_law_642 ⟨Nat.le_trans (Nat.le_add_right _ _) hB.1, Nat.le_trans (Nat.le_add_right _ _) hB.2⟩) (fun v7 S6 hf H locs hH => ?_)
  refine lv_iload hx hb dL_law_645 (lv_at hl 1 rfl) ?_
  refine lv_icmp_eq (tgt := 652) hx hb dL_law_647 (by decide) (fun c8 => ?_) (fun c8 => ?_)
  · have hf := (if_pos c8).mp hf
    refine lv_iload hx hb dL_law_652 (lv_at hl 1 rfl) ?_
    refine lv_if_ne (tgt := 669) hx hb dL_law_654 (by decide) (fun c9 => ?_) (fun c9 => ?_)
    · have hf := (if_neg c9).mp hf
      exact hJ669 S6 (bc - mc2) (bs - ms2) l1 l2 l3 l4 l5 hf H locs ls cells slots hH (lv_sub hl [2, 3, 4, 5, 6, 7] rfl) hB
    · have hf := (if_pos c9).mp hf
      refine lv_aload_n hx hb dL_law_657 rfl (lv_at hl 5 rfl) ?_
      refine lv_iconst (v := 0) hx hb dL_law_658 (by decide) ?_
      refine q_lald X hH hf dL_law_659 (fun v10 hf => ?_)
      refine lv_iload hx hb dL_law_660 (lv_at hl 0 rfl) ?_
      refine lv_i2l (v := v5.toInt64) hx hb dL_law_662 rfl ?_
      refine W.lcmp hx hb dL_law_663 ?_
      refine lv_if_eq (tgt := 669) hx hb dL_law_664 (by decide) (fun c11 => ?_) (fun c11 => ?_)
      · have hf := (if_pos c11).mp hf
        exact hJ669 S6 (bc - mc2) (bs - ms2) l1 l2 l3 l4 l5 hf H locs ls cells slots hH (lv_sub hl [2, 3, 4, 5, 6, 7] rfl) hB
      · have hf := (if_neg c11).mp hf
        refine lv_iconst (v := 0) hx hb dL_law_667 (by decide) ?_
        exact hf.elim
  · have hf := (if_neg c8).mp hf
    refine lv_iconst (v := 0) hx hb dL_law_650 (by decide) ?_
    exact hf.elim
set_option maxHeartbeats 4000000 in
set_option maxRecDepth 100000 in
theorem jL_law_672 {p : Program} {e : Env} {s : State} {m : MethodId} {below : List Frame} {meth : Method} {c : Code} (l : Launch) (D : va_G) (cy : Nat → ClassId) (G : p_GT) (hGC : ∀ (A : Nat → Prop) (U : State) (H : Heap), G A U H → gC A U H) (hst : l.stackTraces = false) (hGE : ∀ (A : Nat → Prop) (U : State) (H : Heap), G A U H → p_Ex A U H) (hGF : ∀ (A : Nat → Prop) (U : State) (H : Heap), G A U H → gF A U H) (adK adV : Nat → Nat) (hGK : ∀ (A : Nat → Prop) (U : State) (H : Heap), G A U H → gK adK adV A U H) (hGN : ∀ (A : Nat → Prop) (U : State) (H : Heap), G A U H → gN A U H) (hGO : ∀ (A : Nat → Prop) (U : State) (H : Heap), G A U H → va_AO "VillageFeud$Village" U) (dT dO : Nat) (hGT : ∀ (A : Nat → Prop) (U : State) (H : Heap), G A U H → gT dT dO A U H) (hGU : ∀ (A : Nat → Prop) (U : State) (H : Heap), G A U H → gU A U H) (A : Nat → Prop) (b L : Nat) (xs : Nat → Int32) (X : p_X p m c cL_law 9 s #[.ref b] RL D cy G A) (hr : meth.sig.returnType = ret) (hlk : meth.locks = false) (hX : va_X b L xs s s.heap) (hbl : b < s.heap.size) (hbA : ¬ A b) (hfree : ∀ q, A q → s.heap.size ≤ q) (g28 : PS → Nat → Nat → Nat → Nat → Nat → Nat → Int32 → Prop) (ih28 : ∀ (S : PS) (bc bs : Nat) (l1 : Nat) (l2 : Nat) (l3 : Nat) (l4 : Nat) (l5 : Int32), g28 S bc bs l1 l2 l3 l4 l5 → ∀ (H : Heap) (locs : List Loc) (ls : Array Slot) (cells slots : Nat), p_H D cy S A s H locs → lv_has ls 9 [(0, .ref b), (1, .ref l1), (2, .ref l2), (3, .ref l3), (4, .ref l4), (5, .int l5)] → cells + bc ≤ room_1.cells ∧ slots + bs ≤ room_1.slots → W p l e room_1 s m #[Value.ref b] below meth c H locs cells slots (lw_Z below #[Value.ref b] s) (F0 m 28 ls [])) : ∀ (S : PS) (bc bs : Nat) (l1 : Nat) (l2 : Nat) (l3 : Nat) (l4 : Nat) (l5 : Int32), f_L_law_J672 adK L xs g28 S bc bs l1 l2 l3 l4 l5 → ∀ (H : Heap) (locs : List Loc) (ls : Array Slot) (cells slots : Nat), p_H D cy S A s H locs → lv_has ls 9 [(0, .ref b), (1, .ref l1), (2, .ref l2), (3, .ref l3), (4, .ref l4), (5, .int l5)] → cells + bc ≤ room_1.cells ∧ slots + bs ≤ room_1.slots → W p l e room_1 s m #[Value.ref b] below meth c H locs cells slots (lw_Z below #[Value.ref b] s) (F0 m 672 ls []) := by
  have hx := X.1.1
  have hb := X.1.2.1
  have hJ2561 := jL_law_2561 l D cy G hGC hst hGE hGF adK adV hGK hGN hGO dT dO hGT hGU A b L xs X hr hlk hX hbl hbA hfree g28 ih28
  intro S bc bs l1 l2 l3 l4 l5 hf H locs ls cells slots hH hl hB
  have hJ737 : ∀ (S : PS) (bc bs : Nat) (l1 : Nat) (l2 : Nat) (l3 : Nat) (l4 : Nat) (l5 : Int32), f_L_law_J737 adK L xs g28 S bc bs l1 l2 l3 l4 l5 → ∀ (H : Heap) (locs : List Loc) (ls : Array Slot) (cells slots : Nat), p_H D cy S A s H locs → lv_has ls 9 [(0, .ref b), (1, .ref l1), (2, .ref l2), (3, .ref l3), (4, .ref l4), (5, .int l5)] → cells + bc ≤ room_1.cells ∧ slots + bs ≤ room_1.slots → W p l e room_1 s m [.ref b].toArray below meth c H locs cells slots (lw_Z below #[Value.ref b] s) (F0 m 737 ls []) := by
    intro S bc bs l1 l2 l3 l4 l5 hf H locs ls cells slots hH hl hB
    refine lv_goto (tgt := 2561) hx hb dL_law_737 (by decide) ?_
    exact hJ2561 S bc bs l1 l2 l3 l4 l5 hf H locs ls cells slots hH hl hB
  refine lv_aload_n hx hb dL_law_672 rfl (lv_at hl 1 rfl) ?_
  refine lv_aload_n hx hb dL_law_673 rfl (lv_at hl 0 rfl) ?_
  refine lv_iload hx hb dL_law_674 (lv_at hl 5 rfl) ?_
  refine lv_iconst (v := 1) hx hb dL_law_676 (by decide) ?_
  refine lv_iadd hx hb dL_law_677 ?_
  refine va_sld hx hb hX hbl hbA hH.2.2 hf.1 dL_law_678 ?_
  have hf := hf.2
  refine lv_aload_n hx hb dL_law_679 rfl (lv_at hl 0 rfl) ?_
  refine lv_iload hx hb dL_law_680 (lv_at hl 5 rfl) ?_
  refine lv_iconst (v := 2) hx hb dL_law_682 (by decide) ?_
  refine lv_iadd hx hb dL_law_683 ?_
  refine va_sld hx hb hX hbl hbA hH.2.2 hf.1 dL_law_684 ?_
  have hf := hf.2
  refine lv_aload_n hx hb dL_law_685 rfl (lv_at hl 3 rfl) ?_
  obtain ⟨mc2, ms2, hm1, hs1, hf⟩ := hf
  refine q_callXi X hH hB hm1 hs1 (q_runSx [.ref l1, .int (xs (l5 + 1).toNatClampNeg), .int (xs (l5 + 2).toNatClampNeg), .ref l3] [] X hH hl (c_L_weight l D cy G X.2.2.2.1 hst hGE S l1 (xs (l5 + 1).toNatClampNeg) (xs (l5 + 2).toNatClampNeg) l3 mc2 ms2 _ _ hf) mw_L_weight tw_1097 tw_1096 ⟨Nat.le_of_ble_eq_true rfl, Nat.le_of_ble_eq_true rfl⟩ rfl (Nat.le_of_ble_eq_true rfl) dL_law_686 ⟨Nat.le_trans (Nat.add_le_add_left hm1 _) hB.1, Nat.le_trans (Nat.add_le_add_left hs1 _) hB.2⟩) (fun _ _ _ _ hf _ _ _ _ _ _ _ _ _ => hf.elim) (fun v3 S1 hf H locs cells slots hH hB => ?_)
  refine lv_istore (lv' := [(6, .int v3), (0, .ref b), (1, .ref l1), (2, .ref l2), (3, .ref l3), (4, .ref l4), (5, .int l5)]) hx hb dL_law_689 hl (by decide) rfl (fun ls hl => ?_)
  refine lv_aload_n hx hb dL_law_691 rfl (lv_at hl 3 rfl) ?_
  refine lv_aload_n hx hb dL_law_692 rfl (lv_at hl 1 rfl) ?_
  refine lv_iload hx hb dL_law_693 (lv_at hl 6 rfl) ?_
  refine lv_iconst (v := 1) hx hb dL_law_695 (by decide) ?_
  refine lv_iadd hx hb dL_law_696 ?_
  refine va_sld hx hb hX hbl hbA hH.2.2 hf.1 dL_law_697 ?_
  have hf := hf.2
  refine lv_aload_n hx hb dL_law_698 rfl (lv_at hl 1 rfl) ?_
  refine lv_iload hx hb dL_law_699 (lv_at hl 6 rfl) ?_
  refine lv_iconst (v := 2) hx hb dL_law_701 (by decide) ?_
  refine lv_iadd hx hb dL_law_702 ?_
  refine va_sld hx hb hX hbl hbA hH.2.2 hf.1 dL_law_703 ?_
  have hf := hf.2
  obtain ⟨hb1, hb2, hf⟩ := hf
  refine q_backI0 X hH (q_runV [.int (xs (l5 + 1).toNatClampNeg), .int (xs (l5 + 2).toNatClampNeg)] [] X hH hl (c_X8_weight l D cy G X.2.2.2.1 S1 l2 (xs (l5 + 1).toNatClampNeg) (xs (l5 + 2).toNatClampNeg) _ _ hf) mf_X8_weight mv_X8_weight tw_1902 ⟨Nat.le_of_ble_eq_true rfl, Nat.le_of_ble_eq_true rfl⟩ hb1 hb2 (T := TX8) (N := 25) rfl rfl (Nat.le_of_ble_eq_true rfl) dL_law_704 ⟨Nat.le_trans (Nat.le_add_right _ _) hB.1, Nat.le_trans (Nat.le_add_right _ _) hB.2⟩) (fun v5 S4 hf H locs hH => ?_)
  refine lv_istore (lv' := [(7, .int v5), (6, .int v3), (0, .ref b), (1, .ref l1), (2, .ref l2), (3, .ref l3), (4, .ref l4), (5, .int l5)]) hx hb dL_law_707 hl (by decide) rfl (fun ls hl => ?_)
  refine lv_aload_n hx hb dL_law_709 rfl (lv_at hl 4 rfl) ?_
  obtain ⟨hb1, hb2, hf⟩ := hf
  refine q_backI0 X hH (q_runV [] [] X hH hl (c_X8_thrown l D cy G X.2.2.2.1 S4 l2 _ _ hf) mf_X8_thrown mv_X8_thrown tw_1686 ⟨Nat.le_of_ble_eq_true rfl, Nat.le_of_ble_eq_true rfl⟩ hb1 hb2 (T := TX8) (N := 25) rfl rfl (Nat.le_of_ble_eq_true rfl) dL_law_710 ⟨Nat.le_trans (Nat.le_add_right _ _) hB.1, Nat.le_trans (Nat.le_add_right _ _) hB.2⟩) (fun v7 S6 hf H locs hH => ?_)
  refine lv_iload hx hb dL_law_713 (lv_at hl 1 rfl) ?_
  refine lv_icmp_eq (tgt := 720) hx hb dL_law_715 (by decide) (fun c8 => ?_) (fun c8 => ?_)
  · have hf := (if_pos c8).mp hf
    refine lv_iload hx hb dL_law_720 (lv_at hl 1 rfl) ?_
    refine lv_if_ne (tgt := 737) hx hb dL_law_722 (by decide) (fun c9 => ?_) (fun c9 => ?_)
    · have hf := (if_neg c9).mp hf
      exact hJ737 S6 (bc - mc2) (bs - ms2) l1 l2 l3 l4 l5 hf H locs ls cells slots hH (lv_sub hl [2, 3, 4, 5, 6, 7] rfl) hB
    · have hf := (if_pos c9).mp hf
      refine lv_aload_n hx hb dL_law_725 rfl (lv_at hl 5 rfl) ?_
      refine lv_iconst (v := 0) hx hb dL_law_726 (by decide) ?_
      refine q_lald X hH hf dL_law_727 (fun v10 hf => ?_)
      refine lv_iload hx hb dL_law_728 (lv_at hl 0 rfl) ?_
      refine lv_i2l (v := v5.toInt64) hx hb dL_law_730 rfl ?_
      refine W.lcmp hx hb dL_law_731 ?_
      refine lv_if_eq (tgt := 737) hx hb dL_law_732 (by decide) (fun c11 => ?_) (fun c11 => ?_)
      · have hf := (if_pos c11).mp hf
        exact hJ737 S6 (bc - mc2) (bs - ms2) l1 l2 l3 l4 l5 hf H locs ls cells slots hH (lv_sub hl [2, 3, 4, 5, 6, 7] rfl) hB
      · have hf := (if_neg c11).mp hf
        refine lv_iconst (v := 0) hx hb dL_law_735 (by decide) ?_
        exact hf.elim
  · have hf := (if_neg c8).mp hf
    refine lv_iconst (v := 0) hx hb dL_law_718 (by decide) ?_
    exact hf.elim
set_option maxHeartbeats 4000000 in
set_option maxRecDepth 100000 in
theorem jL_law_740 {p : Program} {e : Env} {s : State} {m : MethodId} {below : List Frame} {meth : Method} {c : Code} (l : Launch) (D : va_G) (cy : Nat → ClassId) (G : p_GT) (hGC : ∀ (A : Nat → Prop) (U : State) (H : Heap), G A U H → gC A U H) (hst : l.stackTraces = false) (hGE : ∀ (A : Nat → Prop) (U : State) (H : Heap), G A U H → p_Ex A U H) (hGF : ∀ (A : Nat → Prop) (U : State) (H : Heap), G A U H → gF A U H) (adK adV : Nat → Nat) (hGK : ∀ (A : Nat → Prop) (U : State) (H : Heap), G A U H → gK adK adV A U H) (hGN : ∀ (A : Nat → Prop) (U : State) (H : Heap), G A U H → gN A U H) (hGO : ∀ (A : Nat → Prop) (U : State) (H : Heap), G A U H → va_AO "VillageFeud$Village" U) (dT dO : Nat) (hGT : ∀ (A : Nat → Prop) (U : State) (H : Heap), G A U H → gT dT dO A U H) (hGU : ∀ (A : Nat → Prop) (U : State) (H : Heap), G A U H → gU A U H) (A : Nat → Prop) (b L : Nat) (xs : Nat → Int32) (X : p_X p m c cL_law 9 s #[.ref b] RL D cy G A) (hr : meth.sig.returnType = ret) (hlk : meth.locks = false) (hX : va_X b L xs s s.heap) (hbl : b < s.heap.size) (hbA : ¬ A b) (hfree : ∀ q, A q → s.heap.size ≤ q) (g28 : PS → Nat → Nat → Nat → Nat → Nat → Nat → Int32 → Prop) (ih28 : ∀ (S : PS) (bc bs : Nat) (l1 : Nat) (l2 : Nat) (l3 : Nat) (l4 : Nat) (l5 : Int32), g28 S bc bs l1 l2 l3 l4 l5 → ∀ (H : Heap) (locs : List Loc) (ls : Array Slot) (cells slots : Nat), p_H D cy S A s H locs → lv_has ls 9 [(0, .ref b), (1, .ref l1), (2, .ref l2), (3, .ref l3), (4, .ref l4), (5, .int l5)] → cells + bc ≤ room_1.cells ∧ slots + bs ≤ room_1.slots → W p l e room_1 s m #[Value.ref b] below meth c H locs cells slots (lw_Z below #[Value.ref b] s) (F0 m 28 ls [])) : ∀ (S : PS) (bc bs : Nat) (l1 : Nat) (l2 : Nat) (l3 : Nat) (l4 : Nat) (l5 : Int32), f_L_law_J740 adK L xs g28 S bc bs l1 l2 l3 l4 l5 → ∀ (H : Heap) (locs : List Loc) (ls : Array Slot) (cells slots : Nat), p_H D cy S A s H locs → lv_has ls 9 [(0, .ref b), (1, .ref l1), (2, .ref l2), (3, .ref l3), (4, .ref l4), (5, .int l5)] → cells + bc ≤ room_1.cells ∧ slots + bs ≤ room_1.slots → W p l e room_1 s m #[Value.ref b] below meth c H locs cells slots (lw_Z below #[Value.ref b] s) (F0 m 740 ls []) := by
  have hx := X.1.1
  have hb := X.1.2.1
  have hJ2561 := jL_law_2561 l D cy G hGC hst hGE hGF adK adV hGK hGN hGO dT dO hGT hGU A b L xs X hr hlk hX hbl hbA hfree g28 ih28
  intro S bc bs l1 l2 l3 l4 l5 hf H locs ls cells slots hH hl hB
  have hJ805 : ∀ (S : PS) (bc bs : Nat) (l1 : Nat) (l2 : Nat) (l3 : Nat) (l4 : Nat) (l5 : Int32), f_L_law_J805 adK L xs g28 S bc bs l1 l2 l3 l4 l5 → ∀ (H : Heap) (locs : List Loc) (ls : Array Slot) (cells slots : Nat), p_H D cy S A s H locs → lv_has ls 9 [(0, .ref b), (1, .ref l1), (2, .ref l2), (3, .ref l3), (4, .ref l4), (5, .int l5)] → cells + bc ≤ room_1.cells ∧ slots + bs ≤ room_1.slots → W p l e room_1 s m [.ref b].toArray below meth c H locs cells slots (lw_Z below #[Value.ref b] s) (F0 m 805 ls []) := by
    intro S bc bs l1 l2 l3 l4 l5 hf H locs ls cells slots hH hl hB
    refine lv_goto (tgt := 2561) hx hb dL_law_805 (by decide) ?_
    exact hJ2561 S bc bs l1 l2 l3 l4 l5 hf H locs ls cells slots hH hl hB
  refine lv_aload_n hx hb dL_law_740 rfl (lv_at hl 1 rfl) ?_
  refine lv_aload_n hx hb dL_law_741 rfl (lv_at hl 0 rfl) ?_
  refine lv_iload hx hb dL_law_742 (lv_at hl 5 rfl) ?_
  refine lv_iconst (v := 1) hx hb dL_law_744 (by decide) ?_
  refine lv_iadd hx hb dL_law_745 ?_
  refine va_sld hx hb hX hbl hbA hH.2.2 hf.1 dL_law_746 ?_
  have hf := hf.2
  refine lv_aload_n hx hb dL_law_747 rfl (lv_at hl 0 rfl) ?_
  refine lv_iload hx hb dL_law_748 (lv_at hl 5 rfl) ?_
  refine lv_iconst (v := 2) hx hb dL_law_750 (by decide) ?_
  refine lv_iadd hx hb dL_law_751 ?_
  refine va_sld hx hb hX hbl hbA hH.2.2 hf.1 dL_law_752 ?_
  have hf := hf.2
  refine lv_aload_n hx hb dL_law_753 rfl (lv_at hl 3 rfl) ?_
  obtain ⟨mc2, ms2, hm1, hs1, hf⟩ := hf
  refine q_callXi X hH hB hm1 hs1 (q_runSx [.ref l1, .int (xs (l5 + 1).toNatClampNeg), .int (xs (l5 + 2).toNatClampNeg), .ref l3] [] X hH hl (c_L_householdOf l D cy G X.2.2.2.1 hst hGE hGN S l1 (xs (l5 + 1).toNatClampNeg) (xs (l5 + 2).toNatClampNeg) l3 mc2 ms2 _ _ hf) mw_L_householdOf tw_1119 tw_1118 ⟨Nat.le_of_ble_eq_true rfl, Nat.le_of_ble_eq_true rfl⟩ rfl (Nat.le_of_ble_eq_true rfl) dL_law_754 ⟨Nat.le_trans (Nat.add_le_add_left hm1 _) hB.1, Nat.le_trans (Nat.add_le_add_left hs1 _) hB.2⟩) (fun _ _ _ _ hf _ _ _ _ _ _ _ _ _ => hf.elim) (fun v3 S1 hf H locs cells slots hH hB => ?_)
  refine lv_istore (lv' := [(6, .int v3), (0, .ref b), (1, .ref l1), (2, .ref l2), (3, .ref l3), (4, .ref l4), (5, .int l5)]) hx hb dL_law_757 hl (by decide) rfl (fun ls hl => ?_)
  refine lv_aload_n hx hb dL_law_759 rfl (lv_at hl 3 rfl) ?_
  refine lv_aload_n hx hb dL_law_760 rfl (lv_at hl 1 rfl) ?_
  refine lv_iload hx hb dL_law_761 (lv_at hl 6 rfl) ?_
  refine lv_iconst (v := 1) hx hb dL_law_763 (by decide) ?_
  refine lv_iadd hx hb dL_law_764 ?_
  refine va_sld hx hb hX hbl hbA hH.2.2 hf.1 dL_law_765 ?_
  have hf := hf.2
  refine lv_aload_n hx hb dL_law_766 rfl (lv_at hl 1 rfl) ?_
  refine lv_iload hx hb dL_law_767 (lv_at hl 6 rfl) ?_
  refine lv_iconst (v := 2) hx hb dL_law_769 (by decide) ?_
  refine lv_iadd hx hb dL_law_770 ?_
  refine va_sld hx hb hX hbl hbA hH.2.2 hf.1 dL_law_771 ?_
  have hf := hf.2
  obtain ⟨hb1, hb2, hf⟩ := hf
  refine q_backI0 X hH (q_runV [.int (xs (l5 + 1).toNatClampNeg), .int (xs (l5 + 2).toNatClampNeg)] [] X hH hl (c_X8_householdOf l D cy G X.2.2.2.1 S1 l2 (xs (l5 + 1).toNatClampNeg) (xs (l5 + 2).toNatClampNeg) _ _ hf) mf_X8_householdOf mv_X8_householdOf tw_1906 ⟨Nat.le_of_ble_eq_true rfl, Nat.le_of_ble_eq_true rfl⟩ hb1 hb2 (T := TX8) (N := 25) rfl rfl (Nat.le_of_ble_eq_true rfl) dL_law_772 ⟨Nat.le_trans (Nat.le_add_right _ _) hB.1, Nat.le_trans (Nat.le_add_right _ _) hB.2⟩) (fun v5 S4 hf H locs hH => ?_)
  refine lv_istore (lv' := [(7, .int v5), (6, .int v3), (0, .ref b), (1, .ref l1), (2, .ref l2), (3, .ref l3), (4, .ref l4), (5, .int l5)]) hx hb dL_law_775 hl (by decide) rfl (fun ls hl => ?_)
  refine lv_aload_n hx hb dL_law_777 rfl (lv_at hl 4 rfl) ?_
  obtain ⟨hb1, hb2, hf⟩ := hf
  refine q_backI0 X hH (q_runV [] [] X hH hl (c_X8_thrown l D cy G X.2.2.2.1 S4 l2 _ _ hf) mf_X8_thrown mv_X8_thrown tw_1686 ⟨Nat.le_of_ble_eq_true rfl, Nat.le_of_ble_eq_true rfl⟩ hb1 hb2 (T := TX8) (N := 25) rfl rfl (Nat.le_of_ble_eq_true rfl) dL_law_778 ⟨Nat.le_trans (Nat.le_add_right _ _) hB.1, Nat.le_trans (Nat.le_add_right _ _) hB.2⟩) (fun v7 S6 hf H locs hH => ?_)
  refine lv_iload hx hb dL_law_781 (lv_at hl 1 rfl) ?_
  refine lv_icmp_eq (tgt := 788) hx hb dL_law_783 (by decide) (fun c8 => ?_) (fun c8 => ?_)
  · have hf := (if_pos c8).mp hf
    refine lv_iload hx hb dL_law_788 (lv_at hl 1 rfl) ?_
    refine lv_if_ne (tgt := 805) hx hb dL_law_790 (by decide) (fun c9 => ?_) (fun c9 => ?_)
    · have hf := (if_neg c9).mp hf
      exact hJ805 S6 (bc - mc2) (bs - ms2) l1 l2 l3 l4 l5 hf H locs ls cells slots hH (lv_sub hl [2, 3, 4, 5, 6, 7] rfl) hB
    · have hf := (if_pos c9).mp hf
      refine lv_aload_n hx hb dL_law_793 rfl (lv_at hl 5 rfl) ?_
      refine lv_iconst (v := 0) hx hb dL_law_794 (by decide) ?_
      refine q_lald X hH hf dL_law_795 (fun v10 hf => ?_)
      refine lv_iload hx hb dL_law_796 (lv_at hl 0 rfl) ?_
      refine lv_i2l (v := v5.toInt64) hx hb dL_law_798 rfl ?_
      refine W.lcmp hx hb dL_law_799 ?_
      refine lv_if_eq (tgt := 805) hx hb dL_law_800 (by decide) (fun c11 => ?_) (fun c11 => ?_)
      · have hf := (if_pos c11).mp hf
        exact hJ805 S6 (bc - mc2) (bs - ms2) l1 l2 l3 l4 l5 hf H locs ls cells slots hH (lv_sub hl [2, 3, 4, 5, 6, 7] rfl) hB
      · have hf := (if_neg c11).mp hf
        refine lv_iconst (v := 0) hx hb dL_law_803 (by decide) ?_
        exact hf.elim
  · have hf := (if_neg c8).mp hf
    refine lv_iconst (v := 0) hx hb dL_law_786 (by decide) ?_
    exact hf.elim
set_option maxHeartbeats 4000000 in
set_option maxRecDepth 100000 in
theorem jL_law_808 {p : Program} {e : Env} {s : State} {m : MethodId} {below : List Frame} {meth : Method} {c : Code} (l : Launch) (D : va_G) (cy : Nat → ClassId) (G : p_GT) (hGC : ∀ (A : Nat → Prop) (U : State) (H : Heap), G A U H → gC A U H) (hst : l.stackTraces = false) (hGE : ∀ (A : Nat → Prop) (U : State) (H : Heap), G A U H → p_Ex A U H) (hGF : ∀ (A : Nat → Prop) (U : State) (H : Heap), G A U H → gF A U H) (adK adV : Nat → Nat) (hGK : ∀ (A : Nat → Prop) (U : State) (H : Heap), G A U H → gK adK adV A U H) (hGN : ∀ (A : Nat → Prop) (U : State) (H : Heap), G A U H → gN A U H) (hGO : ∀ (A : Nat → Prop) (U : State) (H : Heap), G A U H → va_AO "VillageFeud$Village" U) (dT dO : Nat) (hGT : ∀ (A : Nat → Prop) (U : State) (H : Heap), G A U H → gT dT dO A U H) (hGU : ∀ (A : Nat → Prop) (U : State) (H : Heap), G A U H → gU A U H) (A : Nat → Prop) (b L : Nat) (xs : Nat → Int32) (X : p_X p m c cL_law 9 s #[.ref b] RL D cy G A) (hr : meth.sig.returnType = ret) (hlk : meth.locks = false) (hX : va_X b L xs s s.heap) (hbl : b < s.heap.size) (hbA : ¬ A b) (hfree : ∀ q, A q → s.heap.size ≤ q) (g28 : PS → Nat → Nat → Nat → Nat → Nat → Nat → Int32 → Prop) (ih28 : ∀ (S : PS) (bc bs : Nat) (l1 : Nat) (l2 : Nat) (l3 : Nat) (l4 : Nat) (l5 : Int32), g28 S bc bs l1 l2 l3 l4 l5 → ∀ (H : Heap) (locs : List Loc) (ls : Array Slot) (cells slots : Nat), p_H D cy S A s H locs → lv_has ls 9 [(0, .ref b), (1, .ref l1), (2, .ref l2), (3, .ref l3), (4, .ref l4), (5, .int l5)] → cells + bc ≤ room_1.cells ∧ slots + bs ≤ room_1.slots → W p l e room_1 s m #[Value.ref b] below meth c H locs cells slots (lw_Z below #[Value.ref b] s) (F0 m 28 ls [])) : ∀ (S : PS) (bc bs : Nat) (l1 : Nat) (l2 : Nat) (l3 : Nat) (l4 : Nat) (l5 : Int32), f_L_law_J808 adK L xs g28 S bc bs l1 l2 l3 l4 l5 → ∀ (H : Heap) (locs : List Loc) (ls : Array Slot) (cells slots : Nat), p_H D cy S A s H locs → lv_has ls 9 [(0, .ref b), (1, .ref l1), (2, .ref l2), (3, .ref l3), (4, .ref l4), (5, .int l5)] → cells + bc ≤ room_1.cells ∧ slots + bs ≤ room_1.slots → W p l e room_1 s m #[Value.ref b] below meth c H locs cells slots (lw_Z below #[Value.ref b] s) (F0 m 808 ls []) := by
  have hx := X.1.1
  have hb := X.1.2.1
  have hJ2561 := jL_law_2561 l D cy G hGC hst hGE hGF adK adV hGK hGN hGO dT dO hGT hGU A b L xs X hr hlk hX hbl hbA hfree g28 ih28
  intro S bc bs l1 l2 l3 l4 l5 hf H locs ls cells slots hH hl hB
  have hJ873 : ∀ (S : PS) (bc bs : Nat) (l1 : Nat) (l2 : Nat) (l3 : Nat) (l4 : Nat) (l5 : Int32), f_L_law_J873 adK L xs g28 S bc bs l1 l2 l3 l4 l5 → ∀ (H : Heap) (locs : List Loc) (ls : Array Slot) (cells slots : Nat), p_H D cy S A s H locs → lv_has ls 9 [(0, .ref b), (1, .ref l1), (2, .ref l2), (3, .ref l3), (4, .ref l4), (5, .int l5)] → cells + bc ≤ room_1.cells ∧ slots + bs ≤ room_1.slots → W p l e room_1 s m [.ref b].toArray below meth c H locs cells slots (lw_Z below #[Value.ref b] s) (F0 m 873 ls []) := by
    intro S bc bs l1 l2 l3 l4 l5 hf H locs ls cells slots hH hl hB
    refine lv_goto (tgt := 2561) hx hb dL_law_873 (by decide) ?_
    exact hJ2561 S bc bs l1 l2 l3 l4 l5 hf H locs ls cells slots hH hl hB
  refine lv_aload_n hx hb dL_law_808 rfl (lv_at hl 1 rfl) ?_
  refine lv_aload_n hx hb dL_law_809 rfl (lv_at hl 0 rfl) ?_
  refine lv_iload hx hb dL_law_810 (lv_at hl 5 rfl) ?_
  refine lv_iconst (v := 1) hx hb dL_law_812 (by decide) ?_
  refine lv_iadd hx hb dL_law_813 ?_
  refine va_sld hx hb hX hbl hbA hH.2.2 hf.1 dL_law_814 ?_
  have hf := hf.2
  refine lv_aload_n hx hb dL_law_815 rfl (lv_at hl 0 rfl) ?_
  refine lv_iload hx hb dL_law_816 (lv_at hl 5 rfl) ?_
  refine lv_iconst (v := 2) hx hb dL_law_818 (by decide) ?_
  refine lv_iadd hx hb dL_law_819 ?_
  refine va_sld hx hb hX hbl hbA hH.2.2 hf.1 dL_law_820 ?_
  have hf := hf.2
  refine lv_aload_n hx hb dL_law_821 rfl (lv_at hl 3 rfl) ?_
  obtain ⟨mc2, ms2, hm1, hs1, hf⟩ := hf
  refine q_callXi X hH hB hm1 hs1 (q_runSx [.ref l1, .int (xs (l5 + 1).toNatClampNeg), .int (xs (l5 + 2).toNatClampNeg), .ref l3] [] X hH hl (c_L_tied l D cy G X.2.2.2.1 hst hGE S l1 (xs (l5 + 1).toNatClampNeg) (xs (l5 + 2).toNatClampNeg) l3 mc2 ms2 _ _ hf) mw_L_tied tw_1138 tw_1137 ⟨Nat.le_of_ble_eq_true rfl, Nat.le_of_ble_eq_true rfl⟩ rfl (Nat.le_of_ble_eq_true rfl) dL_law_822 ⟨Nat.le_trans (Nat.add_le_add_left hm1 _) hB.1, Nat.le_trans (Nat.add_le_add_left hs1 _) hB.2⟩) (fun _ _ _ _ hf _ _ _ _ _ _ _ _ _ => hf.elim) (fun v3 S1 hf H locs cells slots hH hB => ?_)
  refine lv_istore (lv' := [(6, .int v3), (0, .ref b), (1, .ref l1), (2, .ref l2), (3, .ref l3), (4, .ref l4), (5, .int l5)]) hx hb dL_law_825 hl (by decide) rfl (fun ls hl => ?_)
  refine lv_aload_n hx hb dL_law_827 rfl (lv_at hl 3 rfl) ?_
  refine lv_aload_n hx hb dL_law_828 rfl (lv_at hl 1 rfl) ?_
  refine lv_iload hx hb dL_law_829 (lv_at hl 6 rfl) ?_
  refine lv_iconst (v := 1) hx hb dL_law_831 (by decide) ?_
  refine lv_iadd hx hb dL_law_832 ?_
  refine va_sld hx hb hX hbl hbA hH.2.2 hf.1 dL_law_833 ?_
  have hf := hf.2
  refine lv_aload_n hx hb dL_law_834 rfl (lv_at hl 1 rfl) ?_
  refine lv_iload hx hb dL_law_835 (lv_at hl 6 rfl) ?_
  refine lv_iconst (v := 2) hx hb dL_law_837 (by decide) ?_
  refine lv_iadd hx hb dL_law_838 ?_
  refine va_sld hx hb hX hbl hbA hH.2.2 hf.1 dL_law_839 ?_
  have hf := hf.2
  obtain ⟨hb1, hb2, hf⟩ := hf
  refine q_backI0 X hH (q_runV [.int (xs (l5 + 1).toNatClampNeg), .int (xs (l5 + 2).toNatClampNeg)] [] X hH hl (c_X8_tied l D cy G X.2.2.2.1 S1 l2 (xs (l5 + 1).toNatClampNeg) (xs (l5 + 2).toNatClampNeg) _ _ hf) mf_X8_tied mv_X8_tied tw_1918 ⟨Nat.le_of_ble_eq_true rfl, Nat.le_of_ble_eq_true rfl⟩ hb1 hb2 (T := TX8) (N := 25) rfl rfl (Nat.le_of_ble_eq_true rfl) dL_law_840 ⟨Nat.le_trans (Nat.le_add_right _ _) hB.1, Nat.le_trans (Nat.le_add_right _ _) hB.2⟩) (fun v5 S4 hf H locs hH => ?_)
  refine lv_istore (lv' := [(7, .int v5), (6, .int v3), (0, .ref b), (1, .ref l1), (2, .ref l2), (3, .ref l3), (4, .ref l4), (5, .int l5)]) hx hb dL_law_843 hl (by decide) rfl (fun ls hl => ?_)
  refine lv_aload_n hx hb dL_law_845 rfl (lv_at hl 4 rfl) ?_
  obtain ⟨hb1, hb2, hf⟩ := hf
  refine q_backI0 X hH (q_runV [] [] X hH hl (c_X8_thrown l D cy G X.2.2.2.1 S4 l2 _ _ hf) mf_X8_thrown mv_X8_thrown tw_1686 ⟨Nat.le_of_ble_eq_true rfl, Nat.le_of_ble_eq_true rfl⟩ hb1 hb2 (T := TX8) (N := 25) rfl rfl (Nat.le_of_ble_eq_true rfl) dL_law_846 ⟨Nat.le_trans (Nat.le_add_right _ _) hB.1, Nat.le_trans (Nat.le_add_right _ _) hB.2⟩) (fun v7 S6 hf H locs hH => ?_)
  refine lv_iload hx hb dL_law_849 (lv_at hl 1 rfl) ?_
  refine lv_icmp_eq (tgt := 856) hx hb dL_law_851 (by decide) (fun c8 => ?_) (fun c8 => ?_)
  · have hf := (if_pos c8).mp hf
    refine lv_iload hx hb dL_law_856 (lv_at hl 1 rfl) ?_
    refine lv_if_ne (tgt := 873) hx hb dL_law_858 (by decide) (fun c9 => ?_) (fun c9 => ?_)
    · have hf := (if_neg c9).mp hf
      exact hJ873 S6 (bc - mc2) (bs - ms2) l1 l2 l3 l4 l5 hf H locs ls cells slots hH (lv_sub hl [2, 3, 4, 5, 6, 7] rfl) hB
    · have hf := (if_pos c9).mp hf
      refine lv_aload_n hx hb dL_law_861 rfl (lv_at hl 5 rfl) ?_
      refine lv_iconst (v := 0) hx hb dL_law_862 (by decide) ?_
      refine q_lald X hH hf dL_law_863 (fun v10 hf => ?_)
      refine lv_iload hx hb dL_law_864 (lv_at hl 0 rfl) ?_
      refine lv_i2l (v := v5.toInt64) hx hb dL_law_866 rfl ?_
      refine W.lcmp hx hb dL_law_867 ?_
      refine lv_if_eq (tgt := 873) hx hb dL_law_868 (by decide) (fun c11 => ?_) (fun c11 => ?_)
      · have hf := (if_pos c11).mp hf
        exact hJ873 S6 (bc - mc2) (bs - ms2) l1 l2 l3 l4 l5 hf H locs ls cells slots hH (lv_sub hl [2, 3, 4, 5, 6, 7] rfl) hB
      · have hf := (if_neg c11).mp hf
        refine lv_iconst (v := 0) hx hb dL_law_871 (by decide) ?_
        exact hf.elim
  · have hf := (if_neg c8).mp hf
    refine lv_iconst (v := 0) hx hb dL_law_854 (by decide) ?_
    exact hf.elim
set_option maxHeartbeats 4000000 in
set_option maxRecDepth 100000 in
theorem jL_law_876 {p : Program} {e : Env} {s : State} {m : MethodId} {below : List Frame} {meth : Method} {c : Code} (l : Launch) (D : va_G) (cy : Nat → ClassId) (G : p_GT) (hGC : ∀ (A : Nat → Prop) (U : State) (H : Heap), G A U H → gC A U H) (hst : l.stackTraces = false) (hGE : ∀ (A : Nat → Prop) (U : State) (H : Heap), G A U H → p_Ex A U H) (hGF : ∀ (A : Nat → Prop) (U : State) (H : Heap), G A U H → gF A U H) (adK adV : Nat → Nat) (hGK : ∀ (A : Nat → Prop) (U : State) (H : Heap), G A U H → gK adK adV A U H) (hGN : ∀ (A : Nat → Prop) (U : State) (H : Heap), G A U H → gN A U H) (hGO : ∀ (A : Nat → Prop) (U : State) (H : Heap), G A U H → va_AO "VillageFeud$Village" U) (dT dO : Nat) (hGT : ∀ (A : Nat → Prop) (U : State) (H : Heap), G A U H → gT dT dO A U H) (hGU : ∀ (A : Nat → Prop) (U : State) (H : Heap), G A U H → gU A U H) (A : Nat → Prop) (b L : Nat) (xs : Nat → Int32) (X : p_X p m c cL_law 9 s #[.ref b] RL D cy G A) (hr : meth.sig.returnType = ret) (hlk : meth.locks = false) (hX : va_X b L xs s s.heap) (hbl : b < s.heap.size) (hbA : ¬ A b) (hfree : ∀ q, A q → s.heap.size ≤ q) (g28 : PS → Nat → Nat → Nat → Nat → Nat → Nat → Int32 → Prop) (ih28 : ∀ (S : PS) (bc bs : Nat) (l1 : Nat) (l2 : Nat) (l3 : Nat) (l4 : Nat) (l5 : Int32), g28 S bc bs l1 l2 l3 l4 l5 → ∀ (H : Heap) (locs : List Loc) (ls : Array Slot) (cells slots : Nat), p_H D cy S A s H locs → lv_has ls 9 [(0, .ref b), (1, .ref l1), (2, .ref l2), (3, .ref l3), (4, .ref l4), (5, .int l5)] → cells + bc ≤ room_1.cells ∧ slots + bs ≤ room_1.slots → W p l e room_1 s m #[Value.ref b] below meth c H locs cells slots (lw_Z below #[Value.ref b] s) (F0 m 28 ls [])) : ∀ (S : PS) (bc bs : Nat) (l1 : Nat) (l2 : Nat) (l3 : Nat) (l4 : Nat) (l5 : Int32), f_L_law_J876 adK L xs g28 S bc bs l1 l2 l3 l4 l5 → ∀ (H : Heap) (locs : List Loc) (ls : Array Slot) (cells slots : Nat), p_H D cy S A s H locs → lv_has ls 9 [(0, .ref b), (1, .ref l1), (2, .ref l2), (3, .ref l3), (4, .ref l4), (5, .int l5)] → cells + bc ≤ room_1.cells ∧ slots + bs ≤ room_1.slots → W p l e room_1 s m #[Value.ref b] below meth c H locs cells slots (lw_Z below #[Value.ref b] s) (F0 m 876 ls []) := by
  have hx := X.1.1
  have hb := X.1.2.1
  have hJ2561 := jL_law_2561 l D cy G hGC hst hGE hGF adK adV hGK hGN hGO dT dO hGT hGU A b L xs X hr hlk hX hbl hbA hfree g28 ih28
  intro S bc bs l1 l2 l3 l4 l5 hf H locs ls cells slots hH hl hB
  refine lv_aload_n hx hb dL_law_876 rfl (lv_at hl 1 rfl) ?_
  obtain ⟨hb1, hb2, hf⟩ := hf
  refine q_backI0 X hH (q_runV [] [] X hH hl (c_X7_feud l D cy G X.2.2.2.1 S l1 _ _ hf) mf_X7_feud mv_X7_feud tw_356 ⟨Nat.le_of_ble_eq_true rfl, Nat.le_of_ble_eq_true rfl⟩ hb1 hb2 (T := TX7) (N := 12) rfl rfl (Nat.le_of_ble_eq_true rfl) dL_law_877 ⟨Nat.le_trans (Nat.le_add_right _ _) hB.1, Nat.le_trans (Nat.le_add_right _ _) hB.2⟩) (fun v2 S1 hf H locs hH => ?_)
  refine lv_aload_n hx hb dL_law_880 rfl (lv_at hl 2 rfl) ?_
  obtain ⟨hb1, hb2, hf⟩ := hf
  refine q_backI0 X hH (q_runV [] [.int v2] X hH hl (c_X8_feud l D cy G X.2.2.2.1 S1 l2 _ _ hf) mf_X8_feud mv_X8_feud tw_1926 ⟨Nat.le_of_ble_eq_true rfl, Nat.le_of_ble_eq_true rfl⟩ hb1 hb2 (T := TX8) (N := 25) rfl rfl (Nat.le_of_ble_eq_true rfl) dL_law_881 ⟨Nat.le_trans (Nat.le_add_right _ _) hB.1, Nat.le_trans (Nat.le_add_right _ _) hB.2⟩) (fun v4 S3 hf H locs hH => ?_)
  refine lv_icmp_eq (tgt := 2561) hx hb dL_law_884 (by decide) (fun c5 => ?_) (fun c5 => ?_)
  · have hf := (if_pos c5).mp hf
    exact hJ2561 S3 bc bs l1 l2 l3 l4 l5 hf H locs ls cells slots hH hl hB
  · have hf := (if_neg c5).mp hf
    refine lv_iconst (v := 0) hx hb dL_law_887 (by decide) ?_
    exact hf.elim
set_option maxHeartbeats 4000000 in
set_option maxRecDepth 100000 in
theorem jL_law_889 {p : Program} {e : Env} {s : State} {m : MethodId} {below : List Frame} {meth : Method} {c : Code} (l : Launch) (D : va_G) (cy : Nat → ClassId) (G : p_GT) (hGC : ∀ (A : Nat → Prop) (U : State) (H : Heap), G A U H → gC A U H) (hst : l.stackTraces = false) (hGE : ∀ (A : Nat → Prop) (U : State) (H : Heap), G A U H → p_Ex A U H) (hGF : ∀ (A : Nat → Prop) (U : State) (H : Heap), G A U H → gF A U H) (adK adV : Nat → Nat) (hGK : ∀ (A : Nat → Prop) (U : State) (H : Heap), G A U H → gK adK adV A U H) (hGN : ∀ (A : Nat → Prop) (U : State) (H : Heap), G A U H → gN A U H) (hGO : ∀ (A : Nat → Prop) (U : State) (H : Heap), G A U H → va_AO "VillageFeud$Village" U) (dT dO : Nat) (hGT : ∀ (A : Nat → Prop) (U : State) (H : Heap), G A U H → gT dT dO A U H) (hGU : ∀ (A : Nat → Prop) (U : State) (H : Heap), G A U H → gU A U H) (A : Nat → Prop) (b L : Nat) (xs : Nat → Int32) (X : p_X p m c cL_law 9 s #[.ref b] RL D cy G A) (hr : meth.sig.returnType = ret) (hlk : meth.locks = false) (hX : va_X b L xs s s.heap) (hbl : b < s.heap.size) (hbA : ¬ A b) (hfree : ∀ q, A q → s.heap.size ≤ q) (g28 : PS → Nat → Nat → Nat → Nat → Nat → Nat → Int32 → Prop) (ih28 : ∀ (S : PS) (bc bs : Nat) (l1 : Nat) (l2 : Nat) (l3 : Nat) (l4 : Nat) (l5 : Int32), g28 S bc bs l1 l2 l3 l4 l5 → ∀ (H : Heap) (locs : List Loc) (ls : Array Slot) (cells slots : Nat), p_H D cy S A s H locs → lv_has ls 9 [(0, .ref b), (1, .ref l1), (2, .ref l2), (3, .ref l3), (4, .ref l4), (5, .int l5)] → cells + bc ≤ room_1.cells ∧ slots + bs ≤ room_1.slots → W p l e room_1 s m #[Value.ref b] below meth c H locs cells slots (lw_Z below #[Value.ref b] s) (F0 m 28 ls [])) : ∀ (S : PS) (bc bs : Nat) (l1 : Nat) (l2 : Nat) (l3 : Nat) (l4 : Nat) (l5 : Int32), f_L_law_J889 adK L xs g28 S bc bs l1 l2 l3 l4 l5 → ∀ (H : Heap) (locs : List Loc) (ls : Array Slot) (cells slots : Nat), p_H D cy S A s H locs → lv_has ls 9 [(0, .ref b), (1, .ref l1), (2, .ref l2), (3, .ref l3), (4, .ref l4), (5, .int l5)] → cells + bc ≤ room_1.cells ∧ slots + bs ≤ room_1.slots → W p l e room_1 s m #[Value.ref b] below meth c H locs cells slots (lw_Z below #[Value.ref b] s) (F0 m 889 ls []) := by
  have hx := X.1.1
  have hb := X.1.2.1
  have hJ2561 := jL_law_2561 l D cy G hGC hst hGE hGF adK adV hGK hGN hGO dT dO hGT hGU A b L xs X hr hlk hX hbl hbA hfree g28 ih28
  intro S bc bs l1 l2 l3 l4 l5 hf H locs ls cells slots hH hl hB
  refine lv_aload_n hx hb dL_law_889 rfl (lv_at hl 1 rfl) ?_
  obtain ⟨hb1, hb2, hf⟩ := hf
  refine q_backI0 X hH (q_runV [] [] X hH hl (c_X7_feudAgain l D cy G X.2.2.2.1 S l1 _ _ hf) mf_X7_feudAgain mv_X7_feudAgain tw_379 ⟨Nat.le_of_ble_eq_true rfl, Nat.le_of_ble_eq_true rfl⟩ hb1 hb2 (T := TX7) (N := 12) rfl rfl (Nat.le_of_ble_eq_true rfl) dL_law_890 ⟨Nat.le_trans (Nat.le_add_right _ _) hB.1, Nat.le_trans (Nat.le_add_right _ _) hB.2⟩) (fun v2 S1 hf H locs hH => ?_)
  refine lv_aload_n hx hb dL_law_893 rfl (lv_at hl 2 rfl) ?_
  obtain ⟨hb1, hb2, hf⟩ := hf
  refine q_backI0 X hH (q_runV [] [.int v2] X hH hl (c_X8_feudAgain l D cy G X.2.2.2.1 S1 l2 _ _ hf) mf_X8_feudAgain mv_X8_feudAgain tw_1930 ⟨Nat.le_of_ble_eq_true rfl, Nat.le_of_ble_eq_true rfl⟩ hb1 hb2 (T := TX8) (N := 25) rfl rfl (Nat.le_of_ble_eq_true rfl) dL_law_894 ⟨Nat.le_trans (Nat.le_add_right _ _) hB.1, Nat.le_trans (Nat.le_add_right _ _) hB.2⟩) (fun v4 S3 hf H locs hH => ?_)
  refine lv_icmp_eq (tgt := 2561) hx hb dL_law_897 (by decide) (fun c5 => ?_) (fun c5 => ?_)
  · have hf := (if_pos c5).mp hf
    exact hJ2561 S3 bc bs l1 l2 l3 l4 l5 hf H locs ls cells slots hH hl hB
  · have hf := (if_neg c5).mp hf
    refine lv_iconst (v := 0) hx hb dL_law_900 (by decide) ?_
    exact hf.elim
set_option maxHeartbeats 4000000 in
set_option maxRecDepth 100000 in
theorem jL_law_902 {p : Program} {e : Env} {s : State} {m : MethodId} {below : List Frame} {meth : Method} {c : Code} (l : Launch) (D : va_G) (cy : Nat → ClassId) (G : p_GT) (hGC : ∀ (A : Nat → Prop) (U : State) (H : Heap), G A U H → gC A U H) (hst : l.stackTraces = false) (hGE : ∀ (A : Nat → Prop) (U : State) (H : Heap), G A U H → p_Ex A U H) (hGF : ∀ (A : Nat → Prop) (U : State) (H : Heap), G A U H → gF A U H) (adK adV : Nat → Nat) (hGK : ∀ (A : Nat → Prop) (U : State) (H : Heap), G A U H → gK adK adV A U H) (hGN : ∀ (A : Nat → Prop) (U : State) (H : Heap), G A U H → gN A U H) (hGO : ∀ (A : Nat → Prop) (U : State) (H : Heap), G A U H → va_AO "VillageFeud$Village" U) (dT dO : Nat) (hGT : ∀ (A : Nat → Prop) (U : State) (H : Heap), G A U H → gT dT dO A U H) (hGU : ∀ (A : Nat → Prop) (U : State) (H : Heap), G A U H → gU A U H) (A : Nat → Prop) (b L : Nat) (xs : Nat → Int32) (X : p_X p m c cL_law 9 s #[.ref b] RL D cy G A) (hr : meth.sig.returnType = ret) (hlk : meth.locks = false) (hX : va_X b L xs s s.heap) (hbl : b < s.heap.size) (hbA : ¬ A b) (hfree : ∀ q, A q → s.heap.size ≤ q) (g28 : PS → Nat → Nat → Nat → Nat → Nat → Nat → Int32 → Prop) (ih28 : ∀ (S : PS) (bc bs : Nat) (l1 : Nat) (l2 : Nat) (l3 : Nat) (l4 : Nat) (l5 : Int32), g28 S bc bs l1 l2 l3 l4 l5 → ∀ (H : Heap) (locs : List Loc) (ls : Array Slot) (cells slots : Nat), p_H D cy S A s H locs → lv_has ls 9 [(0, .ref b), (1, .ref l1), (2, .ref l2), (3, .ref l3), (4, .ref l4), (5, .int l5)] → cells + bc ≤ room_1.cells ∧ slots + bs ≤ room_1.slots → W p l e room_1 s m #[Value.ref b] below meth c H locs cells slots (lw_Z below #[Value.ref b] s) (F0 m 28 ls [])) : ∀ (S : PS) (bc bs : Nat) (l1 : Nat) (l2 : Nat) (l3 : Nat) (l4 : Nat) (l5 : Int32), f_L_law_J902 adK L xs g28 S bc bs l1 l2 l3 l4 l5 → ∀ (H : Heap) (locs : List Loc) (ls : Array Slot) (cells slots : Nat), p_H D cy S A s H locs → lv_has ls 9 [(0, .ref b), (1, .ref l1), (2, .ref l2), (3, .ref l3), (4, .ref l4), (5, .int l5)] → cells + bc ≤ room_1.cells ∧ slots + bs ≤ room_1.slots → W p l e room_1 s m #[Value.ref b] below meth c H locs cells slots (lw_Z below #[Value.ref b] s) (F0 m 902 ls []) := by
  have hx := X.1.1
  have hb := X.1.2.1
  have hJ2561 := jL_law_2561 l D cy G hGC hst hGE hGF adK adV hGK hGN hGO dT dO hGT hGU A b L xs X hr hlk hX hbl hbA hfree g28 ih28
  intro S bc bs l1 l2 l3 l4 l5 hf H locs ls cells slots hH hl hB
  refine lv_aload_n hx hb dL_law_902 rfl (lv_at hl 1 rfl) ?_
  obtain ⟨hb1, hb2, hf⟩ := hf
  refine q_backI0 X hH (q_runV [] [] X hH hl (c_X7_phases l D cy G X.2.2.2.1 S l1 _ _ hf) mf_X7_phases mv_X7_phases tw_403 ⟨Nat.le_of_ble_eq_true rfl, Nat.le_of_ble_eq_true rfl⟩ hb1 hb2 (T := TX7) (N := 12) rfl rfl (Nat.le_of_ble_eq_true rfl) dL_law_903 ⟨Nat.le_trans (Nat.le_add_right _ _) hB.1, Nat.le_trans (Nat.le_add_right _ _) hB.2⟩) (fun v2 S1 hf H locs hH => ?_)
  refine lv_aload_n hx hb dL_law_906 rfl (lv_at hl 2 rfl) ?_
  obtain ⟨hb1, hb2, hf⟩ := hf
  refine q_backI0 X hH (q_runV [] [.int v2] X hH hl (c_X8_phases l D cy G X.2.2.2.1 S1 l2 _ _ hf) mf_X8_phases mv_X8_phases tw_1836 ⟨Nat.le_of_ble_eq_true rfl, Nat.le_of_ble_eq_true rfl⟩ hb1 hb2 (T := TX8) (N := 25) rfl rfl (Nat.le_of_ble_eq_true rfl) dL_law_907 ⟨Nat.le_trans (Nat.le_add_right _ _) hB.1, Nat.le_trans (Nat.le_add_right _ _) hB.2⟩) (fun v4 S3 hf H locs hH => ?_)
  refine lv_icmp_eq (tgt := 2561) hx hb dL_law_910 (by decide) (fun c5 => ?_) (fun c5 => ?_)
  · have hf := (if_pos c5).mp hf
    exact hJ2561 S3 bc bs l1 l2 l3 l4 l5 hf H locs ls cells slots hH hl hB
  · have hf := (if_neg c5).mp hf
    refine lv_iconst (v := 0) hx hb dL_law_913 (by decide) ?_
    exact hf.elim
set_option maxHeartbeats 4000000 in
set_option maxRecDepth 100000 in
theorem jL_law_915 {p : Program} {e : Env} {s : State} {m : MethodId} {below : List Frame} {meth : Method} {c : Code} (l : Launch) (D : va_G) (cy : Nat → ClassId) (G : p_GT) (hGC : ∀ (A : Nat → Prop) (U : State) (H : Heap), G A U H → gC A U H) (hst : l.stackTraces = false) (hGE : ∀ (A : Nat → Prop) (U : State) (H : Heap), G A U H → p_Ex A U H) (hGF : ∀ (A : Nat → Prop) (U : State) (H : Heap), G A U H → gF A U H) (adK adV : Nat → Nat) (hGK : ∀ (A : Nat → Prop) (U : State) (H : Heap), G A U H → gK adK adV A U H) (hGN : ∀ (A : Nat → Prop) (U : State) (H : Heap), G A U H → gN A U H) (hGO : ∀ (A : Nat → Prop) (U : State) (H : Heap), G A U H → va_AO "VillageFeud$Village" U) (dT dO : Nat) (hGT : ∀ (A : Nat → Prop) (U : State) (H : Heap), G A U H → gT dT dO A U H) (hGU : ∀ (A : Nat → Prop) (U : State) (H : Heap), G A U H → gU A U H) (A : Nat → Prop) (b L : Nat) (xs : Nat → Int32) (X : p_X p m c cL_law 9 s #[.ref b] RL D cy G A) (hr : meth.sig.returnType = ret) (hlk : meth.locks = false) (hX : va_X b L xs s s.heap) (hbl : b < s.heap.size) (hbA : ¬ A b) (hfree : ∀ q, A q → s.heap.size ≤ q) (g28 : PS → Nat → Nat → Nat → Nat → Nat → Nat → Int32 → Prop) (ih28 : ∀ (S : PS) (bc bs : Nat) (l1 : Nat) (l2 : Nat) (l3 : Nat) (l4 : Nat) (l5 : Int32), g28 S bc bs l1 l2 l3 l4 l5 → ∀ (H : Heap) (locs : List Loc) (ls : Array Slot) (cells slots : Nat), p_H D cy S A s H locs → lv_has ls 9 [(0, .ref b), (1, .ref l1), (2, .ref l2), (3, .ref l3), (4, .ref l4), (5, .int l5)] → cells + bc ≤ room_1.cells ∧ slots + bs ≤ room_1.slots → W p l e room_1 s m #[Value.ref b] below meth c H locs cells slots (lw_Z below #[Value.ref b] s) (F0 m 28 ls [])) : ∀ (S : PS) (bc bs : Nat) (l1 : Nat) (l2 : Nat) (l3 : Nat) (l4 : Nat) (l5 : Int32), f_L_law_J915 adK L xs g28 S bc bs l1 l2 l3 l4 l5 → ∀ (H : Heap) (locs : List Loc) (ls : Array Slot) (cells slots : Nat), p_H D cy S A s H locs → lv_has ls 9 [(0, .ref b), (1, .ref l1), (2, .ref l2), (3, .ref l3), (4, .ref l4), (5, .int l5)] → cells + bc ≤ room_1.cells ∧ slots + bs ≤ room_1.slots → W p l e room_1 s m #[Value.ref b] below meth c H locs cells slots (lw_Z below #[Value.ref b] s) (F0 m 915 ls []) := by
  have hx := X.1.1
  have hb := X.1.2.1
  have hJ2561 := jL_law_2561 l D cy G hGC hst hGE hGF adK adV hGK hGN hGO dT dO hGT hGU A b L xs X hr hlk hX hbl hbA hfree g28 ih28
  intro S bc bs l1 l2 l3 l4 l5 hf H locs ls cells slots hH hl hB
  have hJ980 : ∀ (S : PS) (bc bs : Nat) (l1 : Nat) (l2 : Nat) (l3 : Nat) (l4 : Nat) (l5 : Int32), f_L_law_J980 adK L xs g28 S bc bs l1 l2 l3 l4 l5 → ∀ (H : Heap) (locs : List Loc) (ls : Array Slot) (cells slots : Nat), p_H D cy S A s H locs → lv_has ls 9 [(0, .ref b), (1, .ref l1), (2, .ref l2), (3, .ref l3), (4, .ref l4), (5, .int l5)] → cells + bc ≤ room_1.cells ∧ slots + bs ≤ room_1.slots → W p l e room_1 s m [.ref b].toArray below meth c H locs cells slots (lw_Z below #[Value.ref b] s) (F0 m 980 ls []) := by
    intro S bc bs l1 l2 l3 l4 l5 hf H locs ls cells slots hH hl hB
    refine lv_goto (tgt := 2561) hx hb dL_law_980 (by decide) ?_
    exact hJ2561 S bc bs l1 l2 l3 l4 l5 hf H locs ls cells slots hH hl hB
  refine lv_aload_n hx hb dL_law_915 rfl (lv_at hl 1 rfl) ?_
  refine lv_aload_n hx hb dL_law_916 rfl (lv_at hl 0 rfl) ?_
  refine lv_iload hx hb dL_law_917 (lv_at hl 5 rfl) ?_
  refine lv_iconst (v := 1) hx hb dL_law_919 (by decide) ?_
  refine lv_iadd hx hb dL_law_920 ?_
  refine va_sld hx hb hX hbl hbA hH.2.2 hf.1 dL_law_921 ?_
  have hf := hf.2
  refine lv_aload_n hx hb dL_law_922 rfl (lv_at hl 0 rfl) ?_
  refine lv_iload hx hb dL_law_923 (lv_at hl 5 rfl) ?_
  refine lv_iconst (v := 2) hx hb dL_law_925 (by decide) ?_
  refine lv_iadd hx hb dL_law_926 ?_
  refine va_sld hx hb hX hbl hbA hH.2.2 hf.1 dL_law_927 ?_
  have hf := hf.2
  refine lv_aload_n hx hb dL_law_928 rfl (lv_at hl 3 rfl) ?_
  obtain ⟨mc2, ms2, hm1, hs1, hf⟩ := hf
  refine q_callXi X hH hB hm1 hs1 (q_runSx [.ref l1, .int (xs (l5 + 1).toNatClampNeg), .int (xs (l5 + 2).toNatClampNeg), .ref l3] [] X hH hl (c_L_phaseOf l D cy G X.2.2.2.1 hst hGE hGN S l1 (xs (l5 + 1).toNatClampNeg) (xs (l5 + 2).toNatClampNeg) l3 mc2 ms2 _ _ hf) mw_L_phaseOf tw_1154 tw_1153 ⟨Nat.le_of_ble_eq_true rfl, Nat.le_of_ble_eq_true rfl⟩ rfl (Nat.le_of_ble_eq_true rfl) dL_law_929 ⟨Nat.le_trans (Nat.add_le_add_left hm1 _) hB.1, Nat.le_trans (Nat.add_le_add_left hs1 _) hB.2⟩) (fun _ _ _ _ hf _ _ _ _ _ _ _ _ _ => hf.elim) (fun v3 S1 hf H locs cells slots hH hB => ?_)
  refine lv_istore (lv' := [(6, .int v3), (0, .ref b), (1, .ref l1), (2, .ref l2), (3, .ref l3), (4, .ref l4), (5, .int l5)]) hx hb dL_law_932 hl (by decide) rfl (fun ls hl => ?_)
  refine lv_aload_n hx hb dL_law_934 rfl (lv_at hl 3 rfl) ?_
  refine lv_aload_n hx hb dL_law_935 rfl (lv_at hl 1 rfl) ?_
  refine lv_iload hx hb dL_law_936 (lv_at hl 6 rfl) ?_
  refine lv_iconst (v := 1) hx hb dL_law_938 (by decide) ?_
  refine lv_iadd hx hb dL_law_939 ?_
  refine va_sld hx hb hX hbl hbA hH.2.2 hf.1 dL_law_940 ?_
  have hf := hf.2
  refine lv_aload_n hx hb dL_law_941 rfl (lv_at hl 1 rfl) ?_
  refine lv_iload hx hb dL_law_942 (lv_at hl 6 rfl) ?_
  refine lv_iconst (v := 2) hx hb dL_law_944 (by decide) ?_
  refine lv_iadd hx hb dL_law_945 ?_
  refine va_sld hx hb hX hbl hbA hH.2.2 hf.1 dL_law_946 ?_
  have hf := hf.2
  obtain ⟨hb1, hb2, hf⟩ := hf
  refine q_backI0 X hH (q_runV [.int (xs (l5 + 1).toNatClampNeg), .int (xs (l5 + 2).toNatClampNeg)] [] X hH hl (c_X8_phaseOf l D cy G X.2.2.2.1 S1 l2 (xs (l5 + 1).toNatClampNeg) (xs (l5 + 2).toNatClampNeg) _ _ hf) mf_X8_phaseOf mv_X8_phaseOf tw_1840 ⟨Nat.le_of_ble_eq_true rfl, Nat.le_of_ble_eq_true rfl⟩ hb1 hb2 (T := TX8) (N := 25) rfl rfl (Nat.le_of_ble_eq_true rfl) dL_law_947 ⟨Nat.le_trans (Nat.le_add_right _ _) hB.1, Nat.le_trans (Nat.le_add_right _ _) hB.2⟩) (fun v5 S4 hf H locs hH => ?_)
  refine lv_istore (lv' := [(7, .int v5), (6, .int v3), (0, .ref b), (1, .ref l1), (2, .ref l2), (3, .ref l3), (4, .ref l4), (5, .int l5)]) hx hb dL_law_950 hl (by decide) rfl (fun ls hl => ?_)
  refine lv_aload_n hx hb dL_law_952 rfl (lv_at hl 4 rfl) ?_
  obtain ⟨hb1, hb2, hf⟩ := hf
  refine q_backI0 X hH (q_runV [] [] X hH hl (c_X8_thrown l D cy G X.2.2.2.1 S4 l2 _ _ hf) mf_X8_thrown mv_X8_thrown tw_1686 ⟨Nat.le_of_ble_eq_true rfl, Nat.le_of_ble_eq_true rfl⟩ hb1 hb2 (T := TX8) (N := 25) rfl rfl (Nat.le_of_ble_eq_true rfl) dL_law_953 ⟨Nat.le_trans (Nat.le_add_right _ _) hB.1, Nat.le_trans (Nat.le_add_right _ _) hB.2⟩) (fun v7 S6 hf H locs hH => ?_)
  refine lv_iload hx hb dL_law_956 (lv_at hl 1 rfl) ?_
  refine lv_icmp_eq (tgt := 963) hx hb dL_law_958 (by decide) (fun c8 => ?_) (fun c8 => ?_)
  · have hf := (if_pos c8).mp hf
    refine lv_iload hx hb dL_law_963 (lv_at hl 1 rfl) ?_
    refine lv_if_ne (tgt := 980) hx hb dL_law_965 (by decide) (fun c9 => ?_) (fun c9 => ?_)
    · have hf := (if_neg c9).mp hf
      exact hJ980 S6 (bc - mc2) (bs - ms2) l1 l2 l3 l4 l5 hf H locs ls cells slots hH (lv_sub hl [2, 3, 4, 5, 6, 7] rfl) hB
    · have hf := (if_pos c9).mp hf
      refine lv_aload_n hx hb dL_law_968 rfl (lv_at hl 5 rfl) ?_
      refine lv_iconst (v := 0) hx hb dL_law_969 (by decide) ?_
      refine q_lald X hH hf dL_law_970 (fun v10 hf => ?_)
      refine lv_iload hx hb dL_law_971 (lv_at hl 0 rfl) ?_
      refine lv_i2l (v := v5.toInt64) hx hb dL_law_973 rfl ?_
      refine W.lcmp hx hb dL_law_974 ?_
      refine lv_if_eq (tgt := 980) hx hb dL_law_975 (by decide) (fun c11 => ?_) (fun c11 => ?_)
      · have hf := (if_pos c11).mp hf
        exact hJ980 S6 (bc - mc2) (bs - ms2) l1 l2 l3 l4 l5 hf H locs ls cells slots hH (lv_sub hl [2, 3, 4, 5, 6, 7] rfl) hB
      · have hf := (if_neg c11).mp hf
        refine lv_iconst (v := 0) hx hb dL_law_978 (by decide) ?_
        exact hf.elim
  · have hf := (if_neg c8).mp hf
    refine lv_iconst (v := 0) hx hb dL_law_961 (by decide) ?_
    exact hf.elim
