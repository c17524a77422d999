set_option maxHeartbeats 4000000 in
set_option maxRecDepth 100000 in
theorem jL_law_1418 {p : Program} {e : Env} {s : State} {m : MethodId} {below : List Frame} {meth : Method} {c : Code} (l : Launch) (D : va_G) (cy : Nat → ClassId) (G : p_GT) (hGC : ∀ (A : Nat → Prop) (U : State) (H : Heap), G A U H → gC A U H) (hst : l.stackTraces = false) (hGE : ∀ (A : Nat → Prop) (U : State) (H : Heap), G A U H → p_Ex A U H) (hGF : ∀ (A : Nat → Prop) (U : State) (H : Heap), G A U H → gF A U H) (adK adV : Nat → Nat) (hGK : ∀ (A : Nat → Prop) (U : State) (H : Heap), G A U H → gK adK adV A U H) (hGO : ∀ (A : Nat → Prop) (U : State) (H : Heap), G A U H → va_AO "VillageFeud$Village" U) (hGQ : ∀ (A : Nat → Prop) (U : State) (H : Heap), G A U H → va_AOA .int U) (dT dO : Nat) (hGT : ∀ (A : Nat → Prop) (U : State) (H : Heap), G A U H → gT dT dO A U H) (hGU : ∀ (A : Nat → Prop) (U : State) (H : Heap), G A U H → gU A U H) (b L : Nat) (xs : Nat → Int32) (hGX : ∀ (A : Nat → Prop) (U : State) (H : Heap), G A U H → gX b L xs A U H) (A : Nat → Prop) (X : p_X p m c cL_law 30 s #[.ref b] RL D cy G A) (hr : meth.sig.returnType = ret) (hlk : meth.locks = false) (hfree : ∀ q, A q → s.heap.size ≤ q) (g1270 : PS → Nat → Nat → Nat → Int32 → Nat → Int32 → Int32 → Nat → Int32 → Int32 → Int32 → Int32 → Int32 → Int32 → Nat → Int32 → Prop) (ih1270 : ∀ (S : PS) (bc bs : Nat) (l1 : Nat) (l2 : Int32) (l3 : Nat) (l4 : Int32) (l14 : Int32) (l19 : Nat) (l20 : Int32) (l21 : Int32) (l22 : Int32) (l23 : Int32) (l24 : Int32) (l25 : Int32) (l26 : Nat) (l27 : Int32), g1270 S bc bs l1 l2 l3 l4 l14 l19 l20 l21 l22 l23 l24 l25 l26 l27 → ∀ (H : Heap) (locs : List Loc) (ls : Array Slot) (cells slots : Nat), p_H D cy S A s H locs → lv_has ls 30 [(0, .ref b), (1, .ref l1), (2, .int l2), (3, .ref l3), (4, .int l4), (14, .int l14), (19, .ref l19), (20, .int l20), (21, .int l21), (22, .int l22), (23, .int l23), (24, .int l24), (25, .int l25), (26, .ref l26), (27, .int l27)] → cells + bc ≤ room_1.cells ∧ slots + bs ≤ room_1.slots → W p l e room_1 s m #[Value.ref b] below meth c H locs cells slots (lw_Z below #[Value.ref b] s) (F0 m 1270 ls [])) : ∀ (S : PS) (bc bs : Nat) (l1 : Nat) (l2 : Int32) (l3 : Nat) (l4 : Int32) (l14 : Int32) (l19 : Nat) (l20 : Int32) (l21 : Int32) (l22 : Int32) (l23 : Int32) (l25 : Int32) (l27 : Int32) (l28 : Int32) (t0 : Nat) (t1 : Nat), f_L_law_J1418 adK L xs g1270 S bc bs l1 l2 l3 l4 l14 l19 l20 l21 l22 l23 l25 l27 l28 t0 t1 → ∀ (H : Heap) (locs : List Loc) (ls : Array Slot) (cells slots : Nat), p_H D cy S A s H locs → lv_has ls 30 [(0, .ref b), (1, .ref l1), (2, .int l2), (3, .ref l3), (4, .int l4), (14, .int l14), (19, .ref l19), (20, .int l20), (21, .int l21), (22, .int l22), (23, .int l23), (25, .int l25), (27, .int l27), (28, .int l28)] → cells + bc ≤ room_1.cells ∧ slots + bs ≤ room_1.slots → W p l e room_1 s m #[Value.ref b] below meth c H locs cells slots (lw_Z below #[Value.ref b] s) (F0 m 1418 ls [.ref t0, .ref t1]) := by
  have hx := X.1.1
  have hb := X.1.2.1
  have hL1429 := jL_law_1429 (e := e) (below := below) l D cy G hGC hst hGE hGF adK adV hGK hGO hGQ dT dO hGT hGU b L xs hGX A X hr hlk hfree g1270 ih1270
  intro S bc bs l1 l2 l3 l4 l14 l19 l20 l21 l22 l23 l25 l27 l28 t0 t1 hf H locs ls cells slots hH hl hB
  obtain ⟨hb1, hb2, hf⟩ := hf
  obtain ⟨mc2, ms2, hm1, hs1, hf⟩ := hf
  refine q_backRB X hH hB hm1 hs1 (q_runV [.ref t0] [] X hH hl (c_J4_append_15ec4_u l D cy G X.2.2.2.1 hGC adK adV hGK hGU S t1 t0 mc2 ms2 _ _ hf) mf_J4_append_15ec4 mv_J4_append_15ec4 tw_1213 ⟨Nat.le_of_ble_eq_true rfl, Nat.le_of_ble_eq_true rfl⟩ hb1 hb2 (T := TJ4) (N := 4) rfl rfl (Nat.le_of_ble_eq_true rfl) dL_law_1418 ⟨Nat.le_trans (Nat.add_le_add_left hm1 _) hB.1, Nat.le_trans (Nat.add_le_add_left hs1 _) hB.2⟩) (fun v3 S1 hf H locs cells slots hH hB => ?_)
  obtain ⟨hb1, hb2, hf⟩ := hf
  obtain ⟨mc5, ms5, hm1, hs1, hf⟩ := hf
  refine q_backRB X hH hB hm1 hs1 (q_runV [] [] X hH hl (c_J4_toString_0e30d l D cy G X.2.2.2.1 hGC hst hGE S1 v3 mc5 ms5 _ _ hf) mf_J4_toString_0e30d mv_J4_toString_0e30d tw_1244 ⟨Nat.le_of_ble_eq_true rfl, Nat.le_of_ble_eq_true rfl⟩ hb1 hb2 (T := TJ4) (N := 4) rfl rfl (Nat.le_of_ble_eq_true rfl) dL_law_1421 ⟨Nat.le_trans (Nat.add_le_add_left hm1 _) hB.1, Nat.le_trans (Nat.add_le_add_left hs1 _) hB.2⟩) (fun v6 S4 hf H locs cells slots hH hB => ?_)
  refine lv_astore (lv' := [(26, .ref v6), (0, .ref b), (1, .ref l1), (2, .int l2), (3, .ref l3), (4, .int l4), (14, .int l14), (19, .ref l19), (20, .int l20), (21, .int l21), (22, .int l22), (23, .int l23), (25, .int l25), (27, .int l27), (28, .int l28)]) hx hb dL_law_1424 hl (by decide) rfl (fun ls hl => ?_)
  refine lv_iconst (v := 0) hx hb dL_law_1426 (by decide) ?_
  refine lv_istore (lv' := [(29, .int 0), (26, .ref v6), (0, .ref b), (1, .ref l1), (2, .int l2), (3, .ref l3), (4, .int l4), (14, .int l14), (19, .ref l19), (20, .int l20), (21, .int l21), (22, .int l22), (23, .int l23), (25, .int l25), (27, .int l27), (28, .int l28)]) hx hb dL_law_1427 hl (by decide) rfl (fun ls hl => ?_)
  exact hL1429 4096 S4 ((bc - mc2) - mc5) ((bs - ms2) - ms5) l1 l2 l3 l4 l14 l19 l20 l21 l22 l23 l25 v6 l27 l28 0 hf H locs ls cells slots hH (lv_sub hl [2, 3, 4, 5, 6, 7, 8, 9, 10, 11, 12, 13, 1, 14, 15, 0] rfl) hB
set_option maxHeartbeats 4000000 in
set_option maxRecDepth 100000 in
theorem jL_law_1353 {p : Program} {e : Env} {s : State} {m : MethodId} {below : List Frame} {meth : Method} {c : Code} (l : Launch) (D : va_G) (cy : Nat → ClassId) (G : p_GT) (hGC : ∀ (A : Nat → Prop) (U : State) (H : Heap), G A U H → gC A U H) (hst : l.stackTraces = false) (hGE : ∀ (A : Nat → Prop) (U : State) (H : Heap), G A U H → p_Ex A U H) (hGF : ∀ (A : Nat → Prop) (U : State) (H : Heap), G A U H → gF A U H) (adK adV : Nat → Nat) (hGK : ∀ (A : Nat → Prop) (U : State) (H : Heap), G A U H → gK adK adV A U H) (hGO : ∀ (A : Nat → Prop) (U : State) (H : Heap), G A U H → va_AO "VillageFeud$Village" U) (hGQ : ∀ (A : Nat → Prop) (U : State) (H : Heap), G A U H → va_AOA .int U) (dT dO : Nat) (hGT : ∀ (A : Nat → Prop) (U : State) (H : Heap), G A U H → gT dT dO A U H) (hGU : ∀ (A : Nat → Prop) (U : State) (H : Heap), G A U H → gU A U H) (b L : Nat) (xs : Nat → Int32) (hGX : ∀ (A : Nat → Prop) (U : State) (H : Heap), G A U H → gX b L xs A U H) (A : Nat → Prop) (X : p_X p m c cL_law 30 s #[.ref b] RL D cy G A) (hr : meth.sig.returnType = ret) (hlk : meth.locks = false) (hfree : ∀ q, A q → s.heap.size ≤ q) (g1270 : PS → Nat → Nat → Nat → Int32 → Nat → Int32 → Int32 → Nat → Int32 → Int32 → Int32 → Int32 → Int32 → Int32 → Nat → Int32 → Prop) (ih1270 : ∀ (S : PS) (bc bs : Nat) (l1 : Nat) (l2 : Int32) (l3 : Nat) (l4 : Int32) (l14 : Int32) (l19 : Nat) (l20 : Int32) (l21 : Int32) (l22 : Int32) (l23 : Int32) (l24 : Int32) (l25 : Int32) (l26 : Nat) (l27 : Int32), g1270 S bc bs l1 l2 l3 l4 l14 l19 l20 l21 l22 l23 l24 l25 l26 l27 → ∀ (H : Heap) (locs : List Loc) (ls : Array Slot) (cells slots : Nat), p_H D cy S A s H locs → lv_has ls 30 [(0, .ref b), (1, .ref l1), (2, .int l2), (3, .ref l3), (4, .int l4), (14, .int l14), (19, .ref l19), (20, .int l20), (21, .int l21), (22, .int l22), (23, .int l23), (24, .int l24), (25, .int l25), (26, .ref l26), (27, .int l27)] → cells + bc ≤ room_1.cells ∧ slots + bs ≤ room_1.slots → W p l e room_1 s m #[Value.ref b] below meth c H locs cells slots (lw_Z below #[Value.ref b] s) (F0 m 1270 ls [])) : ∀ (S : PS) (bc bs : Nat) (l1 : Nat) (l2 : Int32) (l3 : Nat) (l4 : Int32) (l14 : Int32) (l19 : Nat) (l20 : Int32) (l21 : Int32) (l22 : Int32) (l23 : Int32) (l26 : Nat) (l27 : Int32) (l28 : Int32), f_L_law_J1353 adK L xs g1270 S bc bs l1 l2 l3 l4 l14 l19 l20 l21 l22 l23 l26 l27 l28 → ∀ (H : Heap) (locs : List Loc) (ls : Array Slot) (cells slots : Nat), p_H D cy S A s H locs → lv_has ls 30 [(0, .ref b), (1, .ref l1), (2, .int l2), (3, .ref l3), (4, .int l4), (14, .int l14), (19, .ref l19), (20, .int l20), (21, .int l21), (22, .int l22), (23, .int l23), (26, .ref l26), (27, .int l27), (28, .int l28)] → cells + bc ≤ room_1.cells ∧ slots + bs ≤ room_1.slots → W p l e room_1 s m #[Value.ref b] below meth c H locs cells slots (lw_Z below #[Value.ref b] s) (F0 m 1353 ls []) := by
  have hx := X.1.1
  have hb := X.1.2.1
  have hJ1418 := jL_law_1418 (e := e) (below := below) l D cy G hGC hst hGE hGF adK adV hGK hGO hGQ dT dO hGT hGU b L xs hGX A X hr hlk hfree g1270 ih1270
  intro S bc bs l1 l2 l3 l4 l14 l19 l20 l21 l22 l23 l26 l27 l28 hf H locs ls cells slots hH hl hB
  refine lv_aload_n hx hb dL_law_1353 rfl (lv_at hl 3 rfl) ?_
  refine lv_iload hx hb dL_law_1354 (lv_at hl 13 rfl) ?_
  refine lv_iload hx hb dL_law_1356 (lv_at hl 9 rfl) ?_
  refine q_backI0 X hH (q_runS [.ref l3, .int l28, .int l22] [] X hH hl (c_L_tie l D cy G X.2.2.2.1 S l3 l28 l22 _ _ hf) mf_L_tie tw_1151 tw_1150 ⟨Nat.le_of_ble_eq_true rfl, Nat.le_of_ble_eq_true rfl⟩ rfl (Nat.le_of_ble_eq_true rfl) dL_law_1358 ⟨Nat.le_trans (Nat.le_add_right _ _) hB.1, Nat.le_trans (Nat.le_add_right _ _) hB.2⟩) (fun v2 S1 hf H locs hH => ?_)
  refine lv_istore (lv' := [(25, .int v2), (0, .ref b), (1, .ref l1), (2, .int l2), (3, .ref l3), (4, .int l4), (14, .int l14), (19, .ref l19), (20, .int l20), (21, .int l21), (22, .int l22), (23, .int l23), (26, .ref l26), (27, .int l27), (28, .int l28)]) hx hb dL_law_1361 hl (by decide) rfl (fun ls hl => ?_)
  refine lv_aload_n hx hb dL_law_1363 rfl (lv_at hl 2 rfl) ?_
  refine lv_iload hx hb dL_law_1364 (lv_at hl 9 rfl) ?_
  refine lv_iload hx hb dL_law_1366 (lv_at hl 13 rfl) ?_
  obtain ⟨mc4, ms4, hm1, hs1, hf⟩ := hf
  refine q_callXi X hH hB hm1 hs1 (q_runSx [.ref l1, .int l21, .int l27] [] X hH hl (c_L_joined l D cy G X.2.2.2.1 hst hGE S1 l1 l21 l27 mc4 ms4 _ _ hf) mw_L_joined tw_897 tw_896 ⟨Nat.le_of_ble_eq_true rfl, Nat.le_of_ble_eq_true rfl⟩ rfl (Nat.le_of_ble_eq_true rfl) dL_law_1368 ⟨Nat.le_trans (Nat.add_le_add_left hm1 _) hB.1, Nat.le_trans (Nat.add_le_add_left hs1 _) hB.2⟩) (fun _ _ _ _ hf _ _ _ _ _ _ _ _ _ => hf.elim) (fun v5 S3 hf H locs cells slots hH hB => ?_)
  refine lv_iload hx hb dL_law_1371 (lv_at hl 14 rfl) ?_
  refine q_backI0 X hH (q_runS [.int l28] [.int v5] X hH hl (c_J6_numberOfTrailingZeros_0f7a4 l D cy G X.2.2.2.1 S3 l28 _ _ hf) mf_J6_numberOfTrailingZeros_0f7a4 tw_1207 tw_1206 ⟨Nat.le_of_ble_eq_true rfl, Nat.le_of_ble_eq_true rfl⟩ rfl (Nat.le_of_ble_eq_true rfl) dL_law_1373 ⟨Nat.le_trans (Nat.le_add_right _ _) hB.1, Nat.le_trans (Nat.le_add_right _ _) hB.2⟩) (fun v7 S6 hf H locs hH => ?_)
  refine lv_icmp_ne (tgt := 1392) hx hb dL_law_1376 (by decide) (fun c8 => ?_) (fun c8 => ?_)
  · have hf := (if_neg c8).mp hf
    refine lv_iconst (v := 0) hx hb dL_law_1392 (by decide) ?_
    exact hf.elim
  · have hf := (if_pos c8).mp hf
    refine lv_aload_n hx hb dL_law_1379 rfl (lv_at hl 2 rfl) ?_
    refine lv_iload hx hb dL_law_1380 (lv_at hl 9 rfl) ?_
    refine lv_iload hx hb dL_law_1382 (lv_at hl 13 rfl) ?_
    obtain ⟨hb1, hb2, mc10, ms10, hm1, hs1, hf⟩ := hf
    refine q_callXi X hH hB hm1 hs1 (q_runVx [.int l21, .int l27] [] X hH hl (c_X7_tieAt l D cy G X.2.2.2.1 hst hGE S6 l1 l21 l27 mc10 ms10 _ _ _ hf) mf_X7_tieAt mv_X7_tieAt tw_513 ⟨Nat.le_of_ble_eq_true rfl, Nat.le_of_ble_eq_true rfl⟩ hb1 hb2 (T := TX7) (N := 12) rfl rfl (Nat.le_of_ble_eq_true rfl) dL_law_1384 ⟨Nat.le_trans (Nat.add_le_add_left hm1 _) hB.1, Nat.le_trans (Nat.add_le_add_left hs1 _) hB.2⟩) (fun _ _ _ _ hf _ _ _ _ _ _ _ _ _ => hf.elim) (fun v11 S9 hf H locs cells slots hH hB => ?_)
    refine lv_iload hx hb dL_law_1387 (lv_at hl 0 rfl) ?_
    refine lv_icmp_eq (tgt := 1394) hx hb dL_law_1389 (by decide) (fun c12 => ?_) (fun c12 => ?_)
    · have hf := (if_pos c12).mp hf
      refine q_new (T := TJ4) (N := 4) X hH hB hf iw_J4 tyJ4 tyJ4_ok rfl tw_1211 tw_178 tw_38 (fun j hj => by rcases (show j = 0 ∨ j = 1 ∨ j = 2 ∨ j = 3 by omega) with rfl | rfl | rfl | rfl <;> rfl) dL_law_1394 (fun q13 S14 bc15 bs16 hf H locs cells slots hH hB => ?_)
      refine lv_dup hx hb dL_law_1397 rfl ?_
      obtain ⟨mc18, ms18, hm1, hs1, hf⟩ := hf
      refine q_backVB X hH hB hm1 hs1 (q_runI [] [.ref q13] X hH hl (c_J4_init_da8c8 l D cy G X.2.2.2.1 hGC S14 q13 mc18 ms18 _ _ hf) mf_J4_init_da8c8 tw_180 tw_1212 ⟨Nat.le_of_ble_eq_true rfl, Nat.le_of_ble_eq_true rfl⟩ rfl (Nat.le_of_ble_eq_true rfl) dL_law_1398 ⟨Nat.le_trans (Nat.add_le_add_left hm1 _) hB.1, Nat.le_trans (Nat.add_le_add_left hs1 _) hB.2⟩) (fun S17 hf H locs cells slots hH hB => ?_)
      refine lv_aload hx hb dL_law_1401 (lv_at hl 12 rfl) ?_
      obtain ⟨hb1, hb2, hf⟩ := hf
      obtain ⟨mc21, ms21, hm1, hs1, hf⟩ := hf
      refine q_backRB X hH hB hm1 hs1 (q_runV [.ref l26] [] X hH hl (c_J4_append_15ec4_u l D cy G X.2.2.2.1 hGC adK adV hGK hGU S17 q13 l26 mc21 ms21 _ _ hf) mf_J4_append_15ec4 mv_J4_append_15ec4 tw_1213 ⟨Nat.le_of_ble_eq_true rfl, Nat.le_of_ble_eq_true rfl⟩ hb1 hb2 (T := TJ4) (N := 4) rfl rfl (Nat.le_of_ble_eq_true rfl) dL_law_1403 ⟨Nat.le_trans (Nat.add_le_add_left hm1 _) hB.1, Nat.le_trans (Nat.add_le_add_left hs1 _) hB.2⟩) (fun v22 S20 hf H locs cells slots hH hB => ?_)
      refine lv_iload hx hb dL_law_1406 (lv_at hl 13 rfl) ?_
      refine lv_if_le (tgt := 1416) hx hb dL_law_1408 (by decide) (fun c23 => ?_) (fun c23 => ?_)
      · have hf := (if_pos c23).mp hf
        refine q_ldcK (i := 0) X (hGK _ _ _ X.2.2.2.2) (by decide) rfl dL_law_1416 ?_
        exact hJ1418 S20 ((bc15 - mc18) - mc21) ((bs16 - ms18) - ms21) l1 l2 l3 l4 l14 l19 l20 l21 l22 l23 v2 l27 l28 (adK 0) v22 hf H locs ls cells slots hH (lv_sub hl [1, 2, 3, 4, 5, 6, 7, 8, 9, 10, 11, 0, 13, 14] rfl) hB
      · have hf := (if_neg c23).mp hf
        refine q_ldcK (i := 4) X (hGK _ _ _ X.2.2.2.2) (by decide) rfl dL_law_1411 ?_
        refine lv_goto (tgt := 1418) hx hb dL_law_1413 (by decide) ?_
        exact hJ1418 S20 ((bc15 - mc18) - mc21) ((bs16 - ms18) - ms21) l1 l2 l3 l4 l14 l19 l20 l21 l22 l23 v2 l27 l28 (adK 4) v22 hf H locs ls cells slots hH (lv_sub hl [1, 2, 3, 4, 5, 6, 7, 8, 9, 10, 11, 0, 13, 14] rfl) hB
    · have hf := (if_neg c12).mp hf
      refine lv_iconst (v := 0) hx hb dL_law_1392 (by decide) ?_
      exact hf.elim
set_option maxHeartbeats 4000000 in
set_option maxRecDepth 100000 in
theorem jL_law_1347 {p : Program} {e : Env} {s : State} {m : MethodId} {below : List Frame} {meth : Method} {c : Code} (l : Launch) (D : va_G) (cy : Nat → ClassId) (G : p_GT) (hGC : ∀ (A : Nat → Prop) (U : State) (H : Heap), G A U H → gC A U H) (hst : l.stackTraces = false) (hGE : ∀ (A : Nat → Prop) (U : State) (H : Heap), G A U H → p_Ex A U H) (hGF : ∀ (A : Nat → Prop) (U : State) (H : Heap), G A U H → gF A U H) (adK adV : Nat → Nat) (hGK : ∀ (A : Nat → Prop) (U : State) (H : Heap), G A U H → gK adK adV A U H) (hGO : ∀ (A : Nat → Prop) (U : State) (H : Heap), G A U H → va_AO "VillageFeud$Village" U) (hGQ : ∀ (A : Nat → Prop) (U : State) (H : Heap), G A U H → va_AOA .int U) (dT dO : Nat) (hGT : ∀ (A : Nat → Prop) (U : State) (H : Heap), G A U H → gT dT dO A U H) (hGU : ∀ (A : Nat → Prop) (U : State) (H : Heap), G A U H → gU A U H) (b L : Nat) (xs : Nat → Int32) (hGX : ∀ (A : Nat → Prop) (U : State) (H : Heap), G A U H → gX b L xs A U H) (A : Nat → Prop) (X : p_X p m c cL_law 30 s #[.ref b] RL D cy G A) (hr : meth.sig.returnType = ret) (hlk : meth.locks = false) (hfree : ∀ q, A q → s.heap.size ≤ q) (g1289 : PS → Nat → Nat → Nat → Int32 → Nat → Int32 → Int32 → Nat → Int32 → Int32 → Int32 → Int32 → Nat → Int32 → Int32 → Int32 → Prop) (ih1289 : ∀ (S : PS) (bc bs : Nat) (l1 : Nat) (l2 : Int32) (l3 : Nat) (l4 : Int32) (l14 : Int32) (l19 : Nat) (l20 : Int32) (l21 : Int32) (l22 : Int32) (l23 : Int32) (l26 : Nat) (l27 : Int32) (l28 : Int32) (l29 : Int32), g1289 S bc bs l1 l2 l3 l4 l14 l19 l20 l21 l22 l23 l26 l27 l28 l29 → ∀ (H : Heap) (locs : List Loc) (ls : Array Slot) (cells slots : Nat), p_H D cy S A s H locs → lv_has ls 30 [(0, .ref b), (1, .ref l1), (2, .int l2), (3, .ref l3), (4, .int l4), (14, .int l14), (19, .ref l19), (20, .int l20), (21, .int l21), (22, .int l22), (23, .int l23), (26, .ref l26), (27, .int l27), (28, .int l28), (29, .int l29)] → cells + bc ≤ room_1.cells ∧ slots + bs ≤ room_1.slots → W p l e room_1 s m #[Value.ref b] below meth c H locs cells slots (lw_Z below #[Value.ref b] s) (F0 m 1289 ls [])) : ∀ (S : PS) (bc bs : Nat) (l1 : Nat) (l2 : Int32) (l3 : Nat) (l4 : Int32) (l14 : Int32) (l19 : Nat) (l20 : Int32) (l21 : Int32) (l22 : Int32) (l23 : Int32) (l26 : Nat) (l27 : Int32) (l28 : Int32) (l29 : Int32), f_L_law_J1347 adK L xs g1289 S bc bs l1 l2 l3 l4 l14 l19 l20 l21 l22 l23 l26 l27 l28 l29 → ∀ (H : Heap) (locs : List Loc) (ls : Array Slot) (cells slots : Nat), p_H D cy S A s H locs → lv_has ls 30 [(0, .ref b), (1, .ref l1), (2, .int l2), (3, .ref l3), (4, .int l4), (14, .int l14), (19, .ref l19), (20, .int l20), (21, .int l21), (22, .int l22), (23, .int l23), (26, .ref l26), (27, .int l27), (28, .int l28), (29, .int l29)] → cells + bc ≤ room_1.cells ∧ slots + bs ≤ room_1.slots → W p l e room_1 s m #[Value.ref b] below meth c H locs cells slots (lw_Z below #[Value.ref b] s) (F0 m 1347 ls []) := by
  have hx := X.1.1
  have hb := X.1.2.1
  intro S bc bs l1 l2 l3 l4 l14 l19 l20 l21 l22 l23 l26 l27 l28 l29 hf H locs ls cells slots hH hl hB
  refine lv_iinc (v := l29 + (-1)) (lv' := [(29, .int (l29 + (-1))), (0, .ref b), (1, .ref l1), (2, .int l2), (3, .ref l3), (4, .int l4), (14, .int l14), (19, .ref l19), (20, .int l20), (21, .int l21), (22, .int l22), (23, .int l23), (26, .ref l26), (27, .int l27), (28, .int l28)]) hx hb dL_law_1347 hl (k := 14) rfl rfl (by decide) rfl (fun ls hl => ?_)
  refine lv_goto (tgt := 1289) hx hb dL_law_1350 (by decide) ?_
  exact ih1289 S bc bs l1 l2 l3 l4 l14 l19 l20 l21 l22 l23 l26 l27 l28 (l29 + (-1)) hf H locs ls cells slots hH (lv_sub hl [1, 2, 3, 4, 5, 6, 7, 8, 9, 10, 11, 12, 13, 14, 0] rfl) hB
set_option maxHeartbeats 4000000 in
set_option maxRecDepth 100000 in
theorem jL_law_1340 {p : Program} {e : Env} {s : State} {m : MethodId} {below : List Frame} {meth : Method} {c : Code} (l : Launch) (D : va_G) (cy : Nat → ClassId) (G : p_GT) (hGC : ∀ (A : Nat → Prop) (U : State) (H : Heap), G A U H → gC A U H) (hst : l.stackTraces = false) (hGE : ∀ (A : Nat → Prop) (U : State) (H : Heap), G A U H → p_Ex A U H) (hGF : ∀ (A : Nat → Prop) (U : State) (H : Heap), G A U H → gF A U H) (adK adV : Nat → Nat) (hGK : ∀ (A : Nat → Prop) (U : State) (H : Heap), G A U H → gK adK adV A U H) (hGO : ∀ (A : Nat → Prop) (U : State) (H : Heap), G A U H → va_AO "VillageFeud$Village" U) (hGQ : ∀ (A : Nat → Prop) (U : State) (H : Heap), G A U H → va_AOA .int U) (dT dO : Nat) (hGT : ∀ (A : Nat → Prop) (U : State) (H : Heap), G A U H → gT dT dO A U H) (hGU : ∀ (A : Nat → Prop) (U : State) (H : Heap), G A U H → gU A U H) (b L : Nat) (xs : Nat → Int32) (hGX : ∀ (A : Nat → Prop) (U : State) (H : Heap), G A U H → gX b L xs A U H) (A : Nat → Prop) (X : p_X p m c cL_law 30 s #[.ref b] RL D cy G A) (hr : meth.sig.returnType = ret) (hlk : meth.locks = false) (hfree : ∀ q, A q → s.heap.size ≤ q) (g1289 : PS → Nat → Nat → Nat → Int32 → Nat → Int32 → Int32 → Nat → Int32 → Int32 → Int32 → Int32 → Nat → Int32 → Int32 → Int32 → Prop) (ih1289 : ∀ (S : PS) (bc bs : Nat) (l1 : Nat) (l2 : Int32) (l3 : Nat) (l4 : Int32) (l14 : Int32) (l19 : Nat) (l20 : Int32) (l21 : Int32) (l22 : Int32) (l23 : Int32) (l26 : Nat) (l27 : Int32) (l28 : Int32) (l29 : Int32), g1289 S bc bs l1 l2 l3 l4 l14 l19 l20 l21 l22 l23 l26 l27 l28 l29 → ∀ (H : Heap) (locs : List Loc) (ls : Array Slot) (cells slots : Nat), p_H D cy S A s H locs → lv_has ls 30 [(0, .ref b), (1, .ref l1), (2, .int l2), (3, .ref l3), (4, .int l4), (14, .int l14), (19, .ref l19), (20, .int l20), (21, .int l21), (22, .int l22), (23, .int l23), (26, .ref l26), (27, .int l27), (28, .int l28), (29, .int l29)] → cells + bc ≤ room_1.cells ∧ slots + bs ≤ room_1.slots → W p l e room_1 s m #[Value.ref b] below meth c H locs cells slots (lw_Z below #[Value.ref b] s) (F0 m 1289 ls [])) : ∀ (S : PS) (bc bs : Nat) (l1 : Nat) (l2 : Int32) (l3 : Nat) (l4 : Int32) (l14 : Int32) (l19 : Nat) (l20 : Int32) (l21 : Int32) (l22 : Int32) (l23 : Int32) (l26 : Nat) (l27 : Int32) (l29 : Int32), f_L_law_J1340 adK L xs g1289 S bc bs l1 l2 l3 l4 l14 l19 l20 l21 l22 l23 l26 l27 l29 → ∀ (H : Heap) (locs : List Loc) (ls : Array Slot) (cells slots : Nat), p_H D cy S A s H locs → lv_has ls 30 [(0, .ref b), (1, .ref l1), (2, .int l2), (3, .ref l3), (4, .int l4), (14, .int l14), (19, .ref l19), (20, .int l20), (21, .int l21), (22, .int l22), (23, .int l23), (26, .ref l26), (27, .int l27), (29, .int l29)] → cells + bc ≤ room_1.cells ∧ slots + bs ≤ room_1.slots → W p l e room_1 s m #[Value.ref b] below meth c H locs cells slots (lw_Z below #[Value.ref b] s) (F0 m 1340 ls []) := by
  have hx := X.1.1
  have hb := X.1.2.1
  have hJ1347 := jL_law_1347 (e := e) (below := below) l D cy G hGC hst hGE hGF adK adV hGK hGO hGQ dT dO hGT hGU b L xs hGX A X hr hlk hfree g1289 ih1289
  intro S bc bs l1 l2 l3 l4 l14 l19 l20 l21 l22 l23 l26 l27 l29 hf H locs ls cells slots hH hl hB
  refine lv_aload hx hb dL_law_1340 (lv_at hl 6 rfl) ?_
  refine lv_iload hx hb dL_law_1342 (lv_at hl 13 rfl) ?_
  refine q_iald X hH hf dL_law_1344 (fun v1 hf => ?_)
  refine lv_istore (lv' := [(28, .int v1), (0, .ref b), (1, .ref l1), (2, .int l2), (3, .ref l3), (4, .int l4), (14, .int l14), (19, .ref l19), (20, .int l20), (21, .int l21), (22, .int l22), (23, .int l23), (26, .ref l26), (27, .int l27), (29, .int l29)]) hx hb dL_law_1345 hl (by decide) rfl (fun ls hl => ?_)
  exact hJ1347 S bc bs l1 l2 l3 l4 l14 l19 l20 l21 l22 l23 l26 l27 v1 l29 hf H locs ls cells slots hH (lv_sub hl [1, 2, 3, 4, 5, 6, 7, 8, 9, 10, 11, 12, 13, 0, 14] rfl) hB
set_option maxHeartbeats 4000000 in
set_option maxRecDepth 100000 in
theorem jL_law_1289 {p : Program} {e : Env} {s : State} {m : MethodId} {below : List Frame} {meth : Method} {c : Code} (l : Launch) (D : va_G) (cy : Nat → ClassId) (G : p_GT) (hGC : ∀ (A : Nat → Prop) (U : State) (H : Heap), G A U H → gC A U H) (hst : l.stackTraces = false) (hGE : ∀ (A : Nat → Prop) (U : State) (H : Heap), G A U H → p_Ex A U H) (hGF : ∀ (A : Nat → Prop) (U : State) (H : Heap), G A U H → gF A U H) (adK adV : Nat → Nat) (hGK : ∀ (A : Nat → Prop) (U : State) (H : Heap), G A U H → gK adK adV A U H) (hGO : ∀ (A : Nat → Prop) (U : State) (H : Heap), G A U H → va_AO "VillageFeud$Village" U) (hGQ : ∀ (A : Nat → Prop) (U : State) (H : Heap), G A U H → va_AOA .int U) (dT dO : Nat) (hGT : ∀ (A : Nat → Prop) (U : State) (H : Heap), G A U H → gT dT dO A U H) (hGU : ∀ (A : Nat → Prop) (U : State) (H : Heap), G A U H → gU A U H) (b L : Nat) (xs : Nat → Int32) (hGX : ∀ (A : Nat → Prop) (U : State) (H : Heap), G A U H → gX b L xs A U H) (A : Nat → Prop) (X : p_X p m c cL_law 30 s #[.ref b] RL D cy G A) (hr : meth.sig.returnType = ret) (hlk : meth.locks = false) (hfree : ∀ q, A q → s.heap.size ≤ q) (g1270 : PS → Nat → Nat → Nat → Int32 → Nat → Int32 → Int32 → Nat → Int32 → Int32 → Int32 → Int32 → Int32 → Int32 → Nat → Int32 → Prop) (ih1270 : ∀ (S : PS) (bc bs : Nat) (l1 : Nat) (l2 : Int32) (l3 : Nat) (l4 : Int32) (l14 : Int32) (l19 : Nat) (l20 : Int32) (l21 : Int32) (l22 : Int32) (l23 : Int32) (l24 : Int32) (l25 : Int32) (l26 : Nat) (l27 : Int32), g1270 S bc bs l1 l2 l3 l4 l14 l19 l20 l21 l22 l23 l24 l25 l26 l27 → ∀ (H : Heap) (locs : List Loc) (ls : Array Slot) (cells slots : Nat), p_H D cy S A s H locs → lv_has ls 30 [(0, .ref b), (1, .ref l1), (2, .int l2), (3, .ref l3), (4, .int l4), (14, .int l14), (19, .ref l19), (20, .int l20), (21, .int l21), (22, .int l22), (23, .int l23), (24, .int l24), (25, .int l25), (26, .ref l26), (27, .int l27)] → cells + bc ≤ room_1.cells ∧ slots + bs ≤ room_1.slots → W p l e room_1 s m #[Value.ref b] below meth c H locs cells slots (lw_Z below #[Value.ref b] s) (F0 m 1270 ls [])) : ∀ (n1289 : Nat) (S : PS) (bc bs : Nat) (l1 : Nat) (l2 : Int32) (l3 : Nat) (l4 : Int32) (l14 : Int32) (l19 : Nat) (l20 : Int32) (l21 : Int32) (l22 : Int32) (l23 : Int32) (l26 : Nat) (l27 : Int32) (l28 : Int32) (l29 : Int32), f_L_law_L1289 adK L xs g1270 n1289 S bc bs l1 l2 l3 l4 l14 l19 l20 l21 l22 l23 l26 l27 l28 l29 → ∀ (H : Heap) (locs : List Loc) (ls : Array Slot) (cells slots : Nat), p_H D cy S A s H locs → lv_has ls 30 [(0, .ref b), (1, .ref l1), (2, .int l2), (3, .ref l3), (4, .int l4), (14, .int l14), (19, .ref l19), (20, .int l20), (21, .int l21), (22, .int l22), (23, .int l23), (26, .ref l26), (27, .int l27), (28, .int l28), (29, .int l29)] → cells + bc ≤ room_1.cells ∧ slots + bs ≤ room_1.slots → W p l e room_1 s m #[Value.ref b] below meth c H locs cells slots (lw_Z below #[Value.ref b] s) (F0 m 1289 ls []) := by
  have hx := X.1.1
  have hb := X.1.2.1
  intro n1289
  induction n1289 with
  | zero => intro S bc bs l1 l2 l3 l4 l14 l19 l20 l21 l22 l23 l26 l27 l28 l29 hf; exact hf.elim
  | succ n1289 ih1289 =>
    have hJ1340 := jL_law_1340 (e := e) (below := below) l D cy G hGC hst hGE hGF adK adV hGK hGO hGQ dT dO hGT hGU b L xs hGX A X hr hlk hfree (f_L_law_L1289 adK L xs g1270 n1289) ih1289
    have hJ1347 := jL_law_1347 (e := e) (below := below) l D cy G hGC hst hGE hGF adK adV hGK hGO hGQ dT dO hGT hGU b L xs hGX A X hr hlk hfree (f_L_law_L1289 adK L xs g1270 n1289) ih1289
    have hJ1353 := jL_law_1353 (e := e) (below := below) l D cy G hGC hst hGE hGF adK adV hGK hGO hGQ dT dO hGT hGU b L xs hGX A X hr hlk hfree g1270 ih1270
    intro S bc bs l1 l2 l3 l4 l14 l19 l20 l21 l22 l23 l26 l27 l28 l29 hf H locs ls cells slots hH hl hB
    refine lv_iload hx hb dL_law_1289 (lv_at hl 14 rfl) ?_
    refine lv_if_lt (tgt := 1353) hx hb dL_law_1291 (by decide) (fun c1 => ?_) (fun c1 => ?_)
    · have hf := (if_pos c1).mp hf
      exact hJ1353 S bc bs l1 l2 l3 l4 l14 l19 l20 l21 l22 l23 l26 l27 l28 hf H locs ls cells slots hH (lv_sub hl [0, 1, 2, 3, 4, 5, 6, 7, 8, 9, 10, 11, 12, 13] rfl) hB
    · have hf := (if_neg c1).mp hf
      refine lv_aload hx hb dL_law_1294 (lv_at hl 6 rfl) ?_
      refine lv_iload hx hb dL_law_1296 (lv_at hl 14 rfl) ?_
      refine q_iald X hH hf dL_law_1298 (fun v2 hf => ?_)
      refine lv_if_eq (tgt := 1347) hx hb dL_law_1299 (by decide) (fun c3 => ?_) (fun c3 => ?_)
      · have hf := (if_pos c3).mp hf
        exact hJ1347 S bc bs l1 l2 l3 l4 l14 l19 l20 l21 l22 l23 l26 l27 l28 l29 hf H locs ls cells slots hH hl hB
      · have hf := (if_neg c3).mp hf
        refine lv_aload hx hb dL_law_1302 (lv_at hl 6 rfl) ?_
        refine lv_iload hx hb dL_law_1304 (lv_at hl 14 rfl) ?_
        refine q_iald X hH hf dL_law_1306 (fun v4 hf => ?_)
        refine lv_iload hx hb dL_law_1307 (lv_at hl 9 rfl) ?_
        refine lv_iand hx hb dL_law_1309 ?_
        refine lv_if_ne (tgt := 1347) hx hb dL_law_1310 (by decide) (fun c5 => ?_) (fun c5 => ?_)
        · have hf := (if_neg c5).mp hf
          exact hJ1347 S bc bs l1 l2 l3 l4 l14 l19 l20 l21 l22 l23 l26 l27 l28 l29 hf H locs ls cells slots hH hl hB
        · have hf := (if_pos c5).mp hf
          refine lv_iload hx hb dL_law_1313 (lv_at hl 13 rfl) ?_
          refine lv_if_eq (tgt := 1340) hx hb dL_law_1315 (by decide) (fun c6 => ?_) (fun c6 => ?_)
          · have hf := (if_pos c6).mp hf
            exact hJ1340 S bc bs l1 l2 l3 l4 l14 l19 l20 l21 l22 l23 l26 l27 l29 hf H locs ls cells slots hH (lv_sub hl [0, 1, 2, 3, 4, 5, 6, 7, 8, 9, 10, 11, 12, 14] rfl) hB
          · have hf := (if_neg c6).mp hf
            refine lv_aload_n hx hb dL_law_1318 rfl (lv_at hl 3 rfl) ?_
            refine lv_aload hx hb dL_law_1319 (lv_at hl 6 rfl) ?_
            refine lv_iload hx hb dL_law_1321 (lv_at hl 14 rfl) ?_
            refine q_iald X hH hf dL_law_1323 (fun v7 hf => ?_)
            refine lv_iload hx hb dL_law_1324 (lv_at hl 9 rfl) ?_
            refine q_backI0 X hH (q_runS [.ref l3, .int v7, .int l22] [] X hH hl (c_L_tie l D cy G X.2.2.2.1 S l3 v7 l22 _ _ hf) mf_L_tie tw_1151 tw_1150 ⟨Nat.le_of_ble_eq_true rfl, Nat.le_of_ble_eq_true rfl⟩ rfl (Nat.le_of_ble_eq_true rfl) dL_law_1326 ⟨Nat.le_trans (Nat.le_add_right _ _) hB.1, Nat.le_trans (Nat.le_add_right _ _) hB.2⟩) (fun v9 S8 hf H locs hH => ?_)
            refine lv_aload_n hx hb dL_law_1329 rfl (lv_at hl 3 rfl) ?_
            refine lv_iload hx hb dL_law_1330 (lv_at hl 13 rfl) ?_
            refine lv_iload hx hb dL_law_1332 (lv_at hl 9 rfl) ?_
            refine q_backI0 X hH (q_runS [.ref l3, .int l28, .int l22] [.int v9] X hH hl (c_L_tie l D cy G X.2.2.2.1 S8 l3 l28 l22 _ _ hf) mf_L_tie tw_1151 tw_1150 ⟨Nat.le_of_ble_eq_true rfl, Nat.le_of_ble_eq_true rfl⟩ rfl (Nat.le_of_ble_eq_true rfl) dL_law_1334 ⟨Nat.le_trans (Nat.le_add_right _ _) hB.1, Nat.le_trans (Nat.le_add_right _ _) hB.2⟩) (fun v11 S10 hf H locs hH => ?_)
            refine lv_icmp_lt (tgt := 1347) hx hb dL_law_1337 (by decide) (fun c12 => ?_) (fun c12 => ?_)
            · have hf := (if_pos c12).mp hf
              exact hJ1347 S10 bc bs l1 l2 l3 l4 l14 l19 l20 l21 l22 l23 l26 l27 l28 l29 hf H locs ls cells slots hH hl hB
            · have hf := (if_neg c12).mp hf
              exact hJ1340 S10 bc bs l1 l2 l3 l4 l14 l19 l20 l21 l22 l23 l26 l27 l29 hf H locs ls cells slots hH (lv_sub hl [0, 1, 2, 3, 4, 5, 6, 7, 8, 9, 10, 11, 12, 14] rfl) hB
set_option maxHeartbeats 4000000 in
set_option maxRecDepth 100000 in
theorem jL_law_1270 {p : Program} {e : Env} {s : State} {m : MethodId} {below : List Frame} {meth : Method} {c : Code} (l : Launch) (D : va_G) (cy : Nat → ClassId) (G : p_GT) (hGC : ∀ (A : Nat → Prop) (U : State) (H : Heap), G A U H → gC A U H) (hst : l.stackTraces = false) (hGE : ∀ (A : Nat → Prop) (U : State) (H : Heap), G A U H → p_Ex A U H) (hGF : ∀ (A : Nat → Prop) (U : State) (H : Heap), G A U H → gF A U H) (adK adV : Nat → Nat) (hGK : ∀ (A : Nat → Prop) (U : State) (H : Heap), G A U H → gK adK adV A U H) (hGO : ∀ (A : Nat → Prop) (U : State) (H : Heap), G A U H → va_AO "VillageFeud$Village" U) (hGQ : ∀ (A : Nat → Prop) (U : State) (H : Heap), G A U H → va_AOA .int U) (dT dO : Nat) (hGT : ∀ (A : Nat → Prop) (U : State) (H : Heap), G A U H → gT dT dO A U H) (hGU : ∀ (A : Nat → Prop) (U : State) (H : Heap), G A U H → gU A U H) (b L : Nat) (xs : Nat → Int32) (hGX : ∀ (A : Nat → Prop) (U : State) (H : Heap), G A U H → gX b L xs A U H) (A : Nat → Prop) (X : p_X p m c cL_law 30 s #[.ref b] RL D cy G A) (hr : meth.sig.returnType = ret) (hlk : meth.locks = false) (hfree : ∀ q, A q → s.heap.size ≤ q) (g1242 : PS → Nat → Nat → Nat → Int32 → Nat → Int32 → Int32 → Nat → Int32 → Int32 → Prop) (ih1242 : ∀ (S : PS) (bc bs : Nat) (l1 : Nat) (l2 : Int32) (l3 : Nat) (l4 : Int32) (l14 : Int32) (l19 : Nat) (l20 : Int32) (l21 : Int32), g1242 S bc bs l1 l2 l3 l4 l14 l19 l20 l21 → ∀ (H : Heap) (locs : List Loc) (ls : Array Slot) (cells slots : Nat), p_H D cy S A s H locs → lv_has ls 30 [(0, .ref b), (1, .ref l1), (2, .int l2), (3, .ref l3), (4, .int l4), (14, .int l14), (19, .ref l19), (20, .int l20), (21, .int l21)] → cells + bc ≤ room_1.cells ∧ slots + bs ≤ room_1.slots → W p l e room_1 s m #[Value.ref b] below meth c H locs cells slots (lw_Z below #[Value.ref b] s) (F0 m 1242 ls [])) : ∀ (n1270 : Nat) (S : PS) (bc bs : Nat) (l1 : Nat) (l2 : Int32) (l3 : Nat) (l4 : Int32) (l14 : Int32) (l19 : Nat) (l20 : Int32) (l21 : Int32) (l22 : Int32) (l23 : Int32) (l24 : Int32) (l25 : Int32) (l26 : Nat) (l27 : Int32), f_L_law_L1270 adK L xs g1242 n1270 S bc bs l1 l2 l3 l4 l14 l19 l20 l21 l22 l23 l24 l25 l26 l27 → ∀ (H : Heap) (locs : List Loc) (ls : Array Slot) (cells slots : Nat), p_H D cy S A s H locs → lv_has ls 30 [(0, .ref b), (1, .ref l1), (2, .int l2), (3, .ref l3), (4, .int l4), (14, .int l14), (19, .ref l19), (20, .int l20), (21, .int l21), (22, .int l22), (23, .int l23), (24, .int l24), (25, .int l25), (26, .ref l26), (27, .int l27)] → cells + bc ≤ room_1.cells ∧ slots + bs ≤ room_1.slots → W p l e room_1 s m #[Value.ref b] below meth c H locs cells slots (lw_Z below #[Value.ref b] s) (F0 m 1270 ls []) := by
  have hx := X.1.1
  have hb := X.1.2.1
  intro n1270
  induction n1270 with
  | zero => intro S bc bs l1 l2 l3 l4 l14 l19 l20 l21 l22 l23 l24 l25 l26 l27 hf; exact hf.elim
  | succ n1270 ih1270 =>
    have hL1289 := jL_law_1289 (e := e) (below := below) l D cy G hGC hst hGE hGF adK adV hGK hGO hGQ dT dO hGT hGU b L xs hGX A X hr hlk hfree (f_L_law_L1270 adK L xs g1242 n1270) ih1270
    have hJ1519 := jL_law_1519 (e := e) (below := below) l D cy G hGC hst hGE hGF adK adV hGK hGO hGQ dT dO hGT hGU b L xs hGX A X hr hlk hfree g1242 ih1242
    intro S bc bs l1 l2 l3 l4 l14 l19 l20 l21 l22 l23 l24 l25 l26 l27 hf H locs ls cells slots hH hl hB
    refine lv_iload hx hb dL_law_1270 (lv_at hl 14 rfl) ?_
    refine lv_iload hx hb dL_law_1272 (lv_at hl 4 rfl) ?_
    refine lv_iload hx hb dL_law_1274 (lv_at hl 8 rfl) ?_
    refine lv_isub hx hb dL_law_1276 ?_
    refine lv_icmp_ge (tgt := 1519) hx hb dL_law_1277 (by decide) (fun c1 => ?_) (fun c1 => ?_)
    · have hf := (if_pos c1).mp hf
      exact hJ1519 S bc bs l1 l2 l3 l4 l14 l19 l20 l21 l23 l24 l25 l26 hf H locs ls cells slots hH (lv_sub hl [0, 1, 2, 3, 4, 5, 6, 7, 8, 10, 11, 12, 13] rfl) hB
    · have hf := (if_neg c1).mp hf
      refine lv_iconst (v := 0) hx hb dL_law_1280 (by decide) ?_
      refine lv_istore (lv' := [(28, .int 0), (0, .ref b), (1, .ref l1), (2, .int l2), (3, .ref l3), (4, .int l4), (14, .int l14), (19, .ref l19), (20, .int l20), (21, .int l21), (22, .int l22), (23, .int l23), (24, .int l24), (25, .int l25), (26, .ref l26), (27, .int l27)]) hx hb dL_law_1281 hl (by decide) rfl (fun ls hl => ?_)
      refine lv_iload hx hb dL_law_1283 (lv_at hl 5 rfl) ?_
      refine lv_iconst (v := 1) hx hb dL_law_1285 (by decide) ?_
      refine lv_isub hx hb dL_law_1286 ?_
      refine lv_istore (lv' := [(29, .int (l4 - 1)), (28, .int 0), (0, .ref b), (1, .ref l1), (2, .int l2), (3, .ref l3), (4, .int l4), (14, .int l14), (19, .ref l19), (20, .int l20), (21, .int l21), (22, .int l22), (23, .int l23), (24, .int l24), (25, .int l25), (26, .ref l26), (27, .int l27)]) hx hb dL_law_1287 hl (by decide) rfl (fun ls hl => ?_)
      exact hL1289 4096 S bc bs l1 l2 l3 l4 l14 l19 l20 l21 l22 l23 l26 l27 0 (l4 - 1) hf H locs ls cells slots hH (lv_sub hl [2, 3, 4, 5, 6, 7, 8, 9, 10, 11, 12, 15, 16, 1, 0] rfl) hB
set_option maxHeartbeats 4000000 in
set_option maxRecDepth 100000 in
theorem jL_law_1242 {p : Program} {e : Env} {s : State} {m : MethodId} {below : List Frame} {meth : Method} {c : Code} (l : Launch) (D : va_G) (cy : Nat → ClassId) (G : p_GT) (hGC : ∀ (A : Nat → Prop) (U : State) (H : Heap), G A U H → gC A U H) (hst : l.stackTraces = false) (hGE : ∀ (A : Nat → Prop) (U : State) (H : Heap), G A U H → p_Ex A U H) (hGF : ∀ (A : Nat → Prop) (U : State) (H : Heap), G A U H → gF A U H) (adK adV : Nat → Nat) (hGK : ∀ (A : Nat → Prop) (U : State) (H : Heap), G A U H → gK adK adV A U H) (hGO : ∀ (A : Nat → Prop) (U : State) (H : Heap), G A U H → va_AO "VillageFeud$Village" U) (hGQ : ∀ (A : Nat → Prop) (U : State) (H : Heap), G A U H → va_AOA .int U) (dT dO : Nat) (hGT : ∀ (A : Nat → Prop) (U : State) (H : Heap), G A U H → gT dT dO A U H) (hGU : ∀ (A : Nat → Prop) (U : State) (H : Heap), G A U H → gU A U H) (b L : Nat) (xs : Nat → Int32) (hGX : ∀ (A : Nat → Prop) (U : State) (H : Heap), G A U H → gX b L xs A U H) (A : Nat → Prop) (X : p_X p m c cL_law 30 s #[.ref b] RL D cy G A) (hr : meth.sig.returnType = ret) (hlk : meth.locks = false) (hfree : ∀ q, A q → s.heap.size ≤ q) (g15 : PS → Nat → Nat → Nat → Int32 → Prop) (ih15 : ∀ (S : PS) (bc bs : Nat) (l1 : Nat) (l2 : Int32), g15 S bc bs l1 l2 → ∀ (H : Heap) (locs : List Loc) (ls : Array Slot) (cells slots : Nat), p_H D cy S A s H locs → lv_has ls 30 [(0, .ref b), (1, .ref l1), (2, .int l2)] → cells + bc ≤ room_1.cells ∧ slots + bs ≤ room_1.slots → W p l e room_1 s m #[Value.ref b] below meth c H locs cells slots (lw_Z below #[Value.ref b] s) (F0 m 15 ls [])) : ∀ (n1242 : Nat) (S : PS) (bc bs : Nat) (l1 : Nat) (l2 : Int32) (l3 : Nat) (l4 : Int32) (l14 : Int32) (l19 : Nat) (l20 : Int32) (l21 : Int32), f_L_law_L1242 adK L xs g15 n1242 S bc bs l1 l2 l3 l4 l14 l19 l20 l21 → ∀ (H : Heap) (locs : List Loc) (ls : Array Slot) (cells slots : Nat), p_H D cy S A s H locs → lv_has ls 30 [(0, .ref b), (1, .ref l1), (2, .int l2), (3, .ref l3), (4, .int l4), (14, .int l14), (19, .ref l19), (20, .int l20), (21, .int l21)] → cells + bc ≤ room_1.cells ∧ slots + bs ≤ room_1.slots → W p l e room_1 s m #[Value.ref b] below meth c H locs cells slots (lw_Z below #[Value.ref b] s) (F0 m 1242 ls []) := by
  have hx := X.1.1
  have hb := X.1.2.1
  intro n1242
  induction n1242 with
  | zero => intro S bc bs l1 l2 l3 l4 l14 l19 l20 l21 hf; exact hf.elim
  | succ n1242 ih1242 =>
    have hL1270 := jL_law_1270 (e := e) (below := below) l D cy G hGC hst hGE hGF adK adV hGK hGO hGQ dT dO hGT hGU b L xs hGX A X hr hlk hfree (f_L_law_L1242 adK L xs g15 n1242) ih1242
    have hJ1709 := jL_law_1709 (e := e) (below := below) l D cy G hGC hst hGE hGF adK adV hGK hGO hGQ dT dO hGT hGU b L xs hGX A X hr hlk hfree g15 ih15
    intro S bc bs l1 l2 l3 l4 l14 l19 l20 l21 hf H locs ls cells slots hH hl hB
    refine lv_iload hx hb dL_law_1242 (lv_at hl 8 rfl) ?_
    refine lv_iload hx hb dL_law_1244 (lv_at hl 4 rfl) ?_
    refine lv_iconst (v := 1) hx hb dL_law_1246 (by decide) ?_
    refine lv_isub hx hb dL_law_1247 ?_
    refine lv_icmp_ge (tgt := 1709) hx hb dL_law_1248 (by decide) (fun c1 => ?_) (fun c1 => ?_)
    · have hf := (if_pos c1).mp hf
      exact hJ1709 S bc bs l1 l2 l4 l20 hf H locs ls cells slots hH (lv_sub hl [0, 1, 2, 4, 7] rfl) hB
    · have hf := (if_neg c1).mp hf
      refine lv_iconst (v := 0) hx hb dL_law_1251 (by decide) ?_
      refine lv_istore (lv' := [(22, .int 0), (0, .ref b), (1, .ref l1), (2, .int l2), (3, .ref l3), (4, .int l4), (14, .int l14), (19, .ref l19), (20, .int l20), (21, .int l21)]) hx hb dL_law_1252 hl (by decide) rfl (fun ls hl => ?_)
      refine lv_iconst (v := 0) hx hb dL_law_1254 (by decide) ?_
      refine lv_istore (lv' := [(23, .int 0), (22, .int 0), (0, .ref b), (1, .ref l1), (2, .int l2), (3, .ref l3), (4, .int l4), (14, .int l14), (19, .ref l19), (20, .int l20), (21, .int l21)]) hx hb dL_law_1255 hl (by decide) rfl (fun ls hl => ?_)
      refine lv_iconst (v := 0) hx hb dL_law_1257 (by decide) ?_
      refine lv_istore (lv' := [(24, .int 0), (23, .int 0), (22, .int 0), (0, .ref b), (1, .ref l1), (2, .int l2), (3, .ref l3), (4, .int l4), (14, .int l14), (19, .ref l19), (20, .int l20), (21, .int l21)]) hx hb dL_law_1258 hl (by decide) rfl (fun ls hl => ?_)
      refine lv_iconst (v := 0) hx hb dL_law_1260 (by decide) ?_
      refine lv_istore (lv' := [(25, .int 0), (24, .int 0), (23, .int 0), (22, .int 0), (0, .ref b), (1, .ref l1), (2, .int l2), (3, .ref l3), (4, .int l4), (14, .int l14), (19, .ref l19), (20, .int l20), (21, .int l21)]) hx hb dL_law_1261 hl (by decide) rfl (fun ls hl => ?_)
      refine q_ldcK (i := 0) X (hGK _ _ _ X.2.2.2.2) (by decide) rfl dL_law_1263 ?_
      refine lv_astore (lv' := [(26, .ref (adK 0)), (25, .int 0), (24, .int 0), (23, .int 0), (22, .int 0), (0, .ref b), (1, .ref l1), (2, .int l2), (3, .ref l3), (4, .int l4), (14, .int l14), (19, .ref l19), (20, .int l20), (21, .int l21)]) hx hb dL_law_1265 hl (by decide) rfl (fun ls hl => ?_)
      refine lv_iconst (v := 0) hx hb dL_law_1267 (by decide) ?_
      refine lv_istore (lv' := [(27, .int 0), (26, .ref (adK 0)), (25, .int 0), (24, .int 0), (23, .int 0), (22, .int 0), (0, .ref b), (1, .ref l1), (2, .int l2), (3, .ref l3), (4, .int l4), (14, .int l14), (19, .ref l19), (20, .int l20), (21, .int l21)]) hx hb dL_law_1268 hl (by decide) rfl (fun ls hl => ?_)
      exact hL1270 4096 S bc bs l1 l2 l3 l4 l14 l19 l20 l21 0 0 0 0 (adK 0) 0 hf H locs ls cells slots hH (lv_sub hl [6, 7, 8, 9, 10, 11, 12, 13, 14, 5, 4, 3, 2, 1, 0] rfl) hB
set_option maxHeartbeats 4000000 in
set_option maxRecDepth 100000 in
theorem jL_law_1217 {p : Program} {e : Env} {s : State} {m : MethodId} {below : List Frame} {meth : Method} {c : Code} (l : Launch) (D : va_G) (cy : Nat → ClassId) (G : p_GT) (hGC : ∀ (A : Nat → Prop) (U : State) (H : Heap), G A U H → gC A U H) (hst : l.stackTraces = false) (hGE : ∀ (A : Nat → Prop) (U : State) (H : Heap), G A U H → p_Ex A U H) (hGF : ∀ (A : Nat → Prop) (U : State) (H : Heap), G A U H → gF A U H) (adK adV : Nat → Nat) (hGK : ∀ (A : Nat → Prop) (U : State) (H : Heap), G A U H → gK adK adV A U H) (hGO : ∀ (A : Nat → Prop) (U : State) (H : Heap), G A U H → va_AO "VillageFeud$Village" U) (hGQ : ∀ (A : Nat → Prop) (U : State) (H : Heap), G A U H → va_AOA .int U) (dT dO : Nat) (hGT : ∀ (A : Nat → Prop) (U : State) (H : Heap), G A U H → gT dT dO A U H) (hGU : ∀ (A : Nat → Prop) (U : State) (H : Heap), G A U H → gU A U H) (b L : Nat) (xs : Nat → Int32) (hGX : ∀ (A : Nat → Prop) (U : State) (H : Heap), G A U H → gX b L xs A U H) (A : Nat → Prop) (X : p_X p m c cL_law 30 s #[.ref b] RL D cy G A) (hr : meth.sig.returnType = ret) (hlk : meth.locks = false) (hfree : ∀ q, A q → s.heap.size ≤ q) (g15 : PS → Nat → Nat → Nat → Int32 → Prop) (ih15 : ∀ (S : PS) (bc bs : Nat) (l1 : Nat) (l2 : Int32), g15 S bc bs l1 l2 → ∀ (H : Heap) (locs : List Loc) (ls : Array Slot) (cells slots : Nat), p_H D cy S A s H locs → lv_has ls 30 [(0, .ref b), (1, .ref l1), (2, .int l2)] → cells + bc ≤ room_1.cells ∧ slots + bs ≤ room_1.slots → W p l e room_1 s m #[Value.ref b] below meth c H locs cells slots (lw_Z below #[Value.ref b] s) (F0 m 15 ls [])) : ∀ (S : PS) (bc bs : Nat) (l1 : Nat) (l2 : Int32) (l3 : Nat) (l4 : Int32) (l14 : Int32) (l19 : Nat), f_L_law_J1217 adK L xs g15 S bc bs l1 l2 l3 l4 l14 l19 → ∀ (H : Heap) (locs : List Loc) (ls : Array Slot) (cells slots : Nat), p_H D cy S A s H locs → lv_has ls 30 [(0, .ref b), (1, .ref l1), (2, .int l2), (3, .ref l3), (4, .int l4), (14, .int l14), (19, .ref l19)] → cells + bc ≤ room_1.cells ∧ slots + bs ≤ room_1.slots → W p l e room_1 s m #[Value.ref b] below meth c H locs cells slots (lw_Z below #[Value.ref b] s) (F0 m 1217 ls []) := by
  have hx := X.1.1
  have hb := X.1.2.1
  have hL1242 := jL_law_1242 (e := e) (below := below) l D cy G hGC hst hGE hGF adK adV hGK hGO hGQ dT dO hGT hGU b L xs hGX A X hr hlk hfree g15 ih15
  intro S bc bs l1 l2 l3 l4 l14 l19 hf H locs ls cells slots hH hl hB
  refine lv_sipush (v := (-30000)) hx hb dL_law_1217 (by decide) ?_
  refine lv_istore (lv' := [(20, .int ((-30000))), (0, .ref b), (1, .ref l1), (2, .int l2), (3, .ref l3), (4, .int l4), (14, .int l14), (19, .ref l19)]) hx hb dL_law_1220 hl (by decide) rfl (fun ls hl => ?_)
  refine lv_aload_n hx hb dL_law_1222 rfl (lv_at hl 2 rfl) ?_
  obtain ⟨hb1, hb2, hf⟩ := hf
  refine q_backI0 X hH (q_runV [] [] X hH hl (c_X7_phases l D cy G X.2.2.2.1 S l1 _ _ hf) mf_X7_phases mv_X7_phases tw_440 ⟨Nat.le_of_ble_eq_true rfl, Nat.le_of_ble_eq_true rfl⟩ hb1 hb2 (T := TX7) (N := 12) rfl rfl (Nat.le_of_ble_eq_true rfl) dL_law_1223 ⟨Nat.le_trans (Nat.le_add_right _ _) hB.1, Nat.le_trans (Nat.le_add_right _ _) hB.2⟩) (fun v2 S1 hf H locs hH => ?_)
  refine lv_iconst (v := 0) hx hb dL_law_1226 (by decide) ?_
  refine lv_iload hx hb dL_law_1227 (lv_at hl 5 rfl) ?_
  refine lv_iconst (v := 1) hx hb dL_law_1229 (by decide) ?_
  refine lv_isub hx hb dL_law_1230 ?_
  refine q_mmax X hl tw_1102 tw_499 tw_47 tw_500 ⟨Nat.le_of_ble_eq_true rfl, Nat.le_of_ble_eq_true rfl⟩ (Nat.le_of_ble_eq_true rfl) (Nat.le_trans (Nat.le_add_right _ _) hB.1) (Nat.le_trans (Nat.le_add_right _ _) hB.2) dL_law_1231 ?_
  refine lv_icmp_eq (tgt := 1239) hx hb dL_law_1234 (by decide) (fun c3 => ?_) (fun c3 => ?_)
  · have hf := (if_pos c3).mp hf
    refine lv_iconst (v := 0) hx hb dL_law_1239 (by decide) ?_
    refine lv_istore (lv' := [(21, .int 0), (20, .int ((-30000))), (0, .ref b), (1, .ref l1), (2, .int l2), (3, .ref l3), (4, .int l4), (14, .int l14), (19, .ref l19)]) hx hb dL_law_1240 hl (by decide) rfl (fun ls hl => ?_)
    exact hL1242 4096 S1 bc bs l1 l2 l3 l4 l14 l19 (-30000) 0 hf H locs ls cells slots hH (lv_sub hl [2, 3, 4, 5, 6, 7, 8, 1, 0] rfl) hB
  · have hf := (if_neg c3).mp hf
    refine lv_iconst (v := 0) hx hb dL_law_1237 (by decide) ?_
    exact hf.elim
set_option maxHeartbeats 4000000 in
set_option maxRecDepth 100000 in
theorem jL_law_1195 {p : Program} {e : Env} {s : State} {m : MethodId} {below : List Frame} {meth : Method} {c : Code} (l : Launch) (D : va_G) (cy : Nat → ClassId) (G : p_GT) (hGC : ∀ (A : Nat → Prop) (U : State) (H : Heap), G A U H → gC A U H) (hst : l.stackTraces = false) (hGE : ∀ (A : Nat → Prop) (U : State) (H : Heap), G A U H → p_Ex A U H) (hGF : ∀ (A : Nat → Prop) (U : State) (H : Heap), G A U H → gF A U H) (adK adV : Nat → Nat) (hGK : ∀ (A : Nat → Prop) (U : State) (H : Heap), G A U H → gK adK adV A U H) (hGO : ∀ (A : Nat → Prop) (U : State) (H : Heap), G A U H → va_AO "VillageFeud$Village" U) (hGQ : ∀ (A : Nat → Prop) (U : State) (H : Heap), G A U H → va_AOA .int U) (dT dO : Nat) (hGT : ∀ (A : Nat → Prop) (U : State) (H : Heap), G A U H → gT dT dO A U H) (hGU : ∀ (A : Nat → Prop) (U : State) (H : Heap), G A U H → gU A U H) (b L : Nat) (xs : Nat → Int32) (hGX : ∀ (A : Nat → Prop) (U : State) (H : Heap), G A U H → gX b L xs A U H) (A : Nat → Prop) (X : p_X p m c cL_law 30 s #[.ref b] RL D cy G A) (hr : meth.sig.returnType = ret) (hlk : meth.locks = false) (hfree : ∀ q, A q → s.heap.size ≤ q) (g15 : PS → Nat → Nat → Nat → Int32 → Prop) (ih15 : ∀ (S : PS) (bc bs : Nat) (l1 : Nat) (l2 : Int32), g15 S bc bs l1 l2 → ∀ (H : Heap) (locs : List Loc) (ls : Array Slot) (cells slots : Nat), p_H D cy S A s H locs → lv_has ls 30 [(0, .ref b), (1, .ref l1), (2, .int l2)] → cells + bc ≤ room_1.cells ∧ slots + bs ≤ room_1.slots → W p l e room_1 s m #[Value.ref b] below meth c H locs cells slots (lw_Z below #[Value.ref b] s) (F0 m 15 ls [])) : ∀ (n1195 : Nat) (S : PS) (bc bs : Nat) (l1 : Nat) (l2 : Int32) (l3 : Nat) (l4 : Int32) (l14 : Int32) (l19 : Nat) (l20 : Int32), f_L_law_L1195 adK L xs g15 n1195 S bc bs l1 l2 l3 l4 l14 l19 l20 → ∀ (H : Heap) (locs : List Loc) (ls : Array Slot) (cells slots : Nat), p_H D cy S A s H locs → lv_has ls 30 [(0, .ref b), (1, .ref l1), (2, .int l2), (3, .ref l3), (4, .int l4), (14, .int l14), (19, .ref l19), (20, .int l20)] → cells + bc ≤ room_1.cells ∧ slots + bs ≤ room_1.slots → W p l e room_1 s m #[Value.ref b] below meth c H locs cells slots (lw_Z below #[Value.ref b] s) (F0 m 1195 ls []) := by
  have hx := X.1.1
  have hb := X.1.2.1
  intro n1195
  induction n1195 with
  | zero => intro S bc bs l1 l2 l3 l4 l14 l19 l20 hf; exact hf.elim
  | succ n1195 ih1195 =>
    have hJ1217 := jL_law_1217 (e := e) (below := below) l D cy G hGC hst hGE hGF adK adV hGK hGO hGQ dT dO hGT hGU b L xs hGX A X hr hlk hfree g15 ih15
    intro S bc bs l1 l2 l3 l4 l14 l19 l20 hf H locs ls cells slots hH hl hB
    refine lv_iload hx hb dL_law_1195 (lv_at hl 7 rfl) ?_
    refine lv_iload hx hb dL_law_1197 (lv_at hl 4 rfl) ?_
    refine lv_icmp_ge (tgt := 1217) hx hb dL_law_1199 (by decide) (fun c1 => ?_) (fun c1 => ?_)
    · have hf := (if_pos c1).mp hf
      exact hJ1217 S bc bs l1 l2 l3 l4 l14 l19 hf H locs ls cells slots hH (lv_sub hl [0, 1, 2, 3, 4, 5, 6] rfl) hB
    · have hf := (if_neg c1).mp hf
      refine lv_aload hx hb dL_law_1202 (lv_at hl 6 rfl) ?_
      refine lv_iload hx hb dL_law_1204 (lv_at hl 7 rfl) ?_
      refine lv_iconst (v := 1) hx hb dL_law_1206 (by decide) ?_
      refine lv_iload hx hb dL_law_1207 (lv_at hl 7 rfl) ?_
      refine lv_ishl hx hb dL_law_1209 ?_
      refine q_iast X hH hf dL_law_1210 (fun S2 hf H locs hH => ?_)
      refine lv_iinc (v := l20 + 1) (lv' := [(20, .int (l20 + 1)), (0, .ref b), (1, .ref l1), (2, .int l2), (3, .ref l3), (4, .int l4), (14, .int l14), (19, .ref l19)]) hx hb dL_law_1211 hl (k := 7) rfl rfl (by decide) rfl (fun ls hl => ?_)
      refine lv_goto (tgt := 1195) hx hb dL_law_1214 (by decide) ?_
      exact ih1195 S2 bc bs l1 l2 l3 l4 l14 l19 (l20 + 1) hf H locs ls cells slots hH (lv_sub hl [1, 2, 3, 4, 5, 6, 7, 0] rfl) hB
set_option maxHeartbeats 4000000 in
set_option maxRecDepth 100000 in
theorem jL_law_1186 {p : Program} {e : Env} {s : State} {m : MethodId} {below : List Frame} {meth : Method} {c : Code} (l : Launch) (D : va_G) (cy : Nat → ClassId) (G : p_GT) (hGC : ∀ (A : Nat → Prop) (U : State) (H : Heap), G A U H → gC A U H) (hst : l.stackTraces = false) (hGE : ∀ (A : Nat → Prop) (U : State) (H : Heap), G A U H → p_Ex A U H) (hGF : ∀ (A : Nat → Prop) (U : State) (H : Heap), G A U H → gF A U H) (adK adV : Nat → Nat) (hGK : ∀ (A : Nat → Prop) (U : State) (H : Heap), G A U H → gK adK adV A U H) (hGO : ∀ (A : Nat → Prop) (U : State) (H : Heap), G A U H → va_AO "VillageFeud$Village" U) (hGQ : ∀ (A : Nat → Prop) (U : State) (H : Heap), G A U H → va_AOA .int U) (dT dO : Nat) (hGT : ∀ (A : Nat → Prop) (U : State) (H : Heap), G A U H → gT dT dO A U H) (hGU : ∀ (A : Nat → Prop) (U : State) (H : Heap), G A U H → gU A U H) (b L : Nat) (xs : Nat → Int32) (hGX : ∀ (A : Nat → Prop) (U : State) (H : Heap), G A U H → gX b L xs A U H) (A : Nat → Prop) (X : p_X p m c cL_law 30 s #[.ref b] RL D cy G A) (hr : meth.sig.returnType = ret) (hlk : meth.locks = false) (hfree : ∀ q, A q → s.heap.size ≤ q) (g15 : PS → Nat → Nat → Nat → Int32 → Prop) (ih15 : ∀ (S : PS) (bc bs : Nat) (l1 : Nat) (l2 : Int32), g15 S bc bs l1 l2 → ∀ (H : Heap) (locs : List Loc) (ls : Array Slot) (cells slots : Nat), p_H D cy S A s H locs → lv_has ls 30 [(0, .ref b), (1, .ref l1), (2, .int l2)] → cells + bc ≤ room_1.cells ∧ slots + bs ≤ room_1.slots → W p l e room_1 s m #[Value.ref b] below meth c H locs cells slots (lw_Z below #[Value.ref b] s) (F0 m 15 ls [])) : ∀ (S : PS) (bc bs : Nat) (l1 : Nat) (l2 : Int32) (l3 : Nat) (l4 : Int32) (l14 : Int32), f_L_law_J1186 adK L xs g15 S bc bs l1 l2 l3 l4 l14 → ∀ (H : Heap) (locs : List Loc) (ls : Array Slot) (cells slots : Nat), p_H D cy S A s H locs → lv_has ls 30 [(0, .ref b), (1, .ref l1), (2, .int l2), (3, .ref l3), (4, .int l4), (14, .int l14)] → cells + bc ≤ room_1.cells ∧ slots + bs ≤ room_1.slots → W p l e room_1 s m #[Value.ref b] below meth c H locs cells slots (lw_Z below #[Value.ref b] s) (F0 m 1186 ls []) := by
  have hx := X.1.1
  have hb := X.1.2.1
  have hL1195 := jL_law_1195 (e := e) (below := below) l D cy G hGC hst hGE hGF adK adV hGK hGO hGQ dT dO hGT hGU b L xs hGX A X hr hlk hfree g15 ih15
  intro S bc bs l1 l2 l3 l4 l14 hf H locs ls cells slots hH hl hB
  refine lv_iload hx hb dL_law_1186 (lv_at hl 4 rfl) ?_
  refine q_newa (t := 0) (atype := .int) (ty := .int) X hH hB hf tw_98 rfl rfl (fun C h => by cases h) (fun N cA => rfl) (by decide) dL_law_1188 (fun q1 S2 bc3 bs4 hf H locs cells slots hH hB => ?_)
  refine lv_astore (lv' := [(19, .ref q1), (0, .ref b), (1, .ref l1), (2, .int l2), (3, .ref l3), (4, .int l4), (14, .int l14)]) hx hb dL_law_1190 hl (by decide) rfl (fun ls hl => ?_)
  refine lv_iconst (v := 0) hx hb dL_law_1192 (by decide) ?_
  refine lv_istore (lv' := [(20, .int 0), (19, .ref q1), (0, .ref b), (1, .ref l1), (2, .int l2), (3, .ref l3), (4, .int l4), (14, .int l14)]) hx hb dL_law_1193 hl (by decide) rfl (fun ls hl => ?_)
  exact hL1195 4096 S2 bc3 bs4 l1 l2 l3 l4 l14 q1 0 hf H locs ls cells slots hH (lv_sub hl [2, 3, 4, 5, 6, 7, 1, 0] rfl) hB
set_option maxHeartbeats 4000000 in
set_option maxRecDepth 100000 in
theorem jL_law_1035 {p : Program} {e : Env} {s : State} {m : MethodId} {below : List Frame} {meth : Method} {c : Code} (l : Launch) (D : va_G) (cy : Nat → ClassId) (G : p_GT) (hGC : ∀ (A : Nat → Prop) (U : State) (H : Heap), G A U H → gC A U H) (hst : l.stackTraces = false) (hGE : ∀ (A : Nat → Prop) (U : State) (H : Heap), G A U H → p_Ex A U H) (hGF : ∀ (A : Nat → Prop) (U : State) (H : Heap), G A U H → gF A U H) (adK adV : Nat → Nat) (hGK : ∀ (A : Nat → Prop) (U : State) (H : Heap), G A U H → gK adK adV A U H) (hGO : ∀ (A : Nat → Prop) (U : State) (H : Heap), G A U H → va_AO "VillageFeud$Village" U) (hGQ : ∀ (A : Nat → Prop) (U : State) (H : Heap), G A U H → va_AOA .int U) (dT dO : Nat) (hGT : ∀ (A : Nat → Prop) (U : State) (H : Heap), G A U H → gT dT dO A U H) (hGU : ∀ (A : Nat → Prop) (U : State) (H : Heap), G A U H → gU A U H) (b L : Nat) (xs : Nat → Int32) (hGX : ∀ (A : Nat → Prop) (U : State) (H : Heap), G A U H → gX b L xs A U H) (A : Nat → Prop) (X : p_X p m c cL_law 30 s #[.ref b] RL D cy G A) (hr : meth.sig.returnType = ret) (hlk : meth.locks = false) (hfree : ∀ q, A q → s.heap.size ≤ q) (g15 : PS → Nat → Nat → Nat → Int32 → Prop) (ih15 : ∀ (S : PS) (bc bs : Nat) (l1 : Nat) (l2 : Int32), g15 S bc bs l1 l2 → ∀ (H : Heap) (locs : List Loc) (ls : Array Slot) (cells slots : Nat), p_H D cy S A s H locs → lv_has ls 30 [(0, .ref b), (1, .ref l1), (2, .int l2)] → cells + bc ≤ room_1.cells ∧ slots + bs ≤ room_1.slots → W p l e room_1 s m #[Value.ref b] below meth c H locs cells slots (lw_Z below #[Value.ref b] s) (F0 m 15 ls [])) : ∀ (S : PS) (bc bs : Nat) (l1 : Nat) (l2 : Int32) (l3 : Nat) (l4 : Int32) (l6 : Int32) (l7 : Int32) (l8 : Int32) (l9 : Int32) (l10 : Int32) (l12 : Int32) (l13 : Int32) (l14 : Int32) (l16 : Int32) (t0 : Int32) (t1 : Int32), f_L_law_J1035 adK L xs g15 S bc bs l1 l2 l3 l4 l6 l7 l8 l9 l10 l12 l13 l14 l16 t0 t1 → ∀ (H : Heap) (locs : List Loc) (ls : Array Slot) (cells slots : Nat), p_H D cy S A s H locs → lv_has ls 30 [(0, .ref b), (1, .ref l1), (2, .int l2), (3, .ref l3), (4, .int l4), (6, .int l6), (7, .int l7), (8, .int l8), (9, .int l9), (10, .int l10), (12, .int l12), (13, .int l13), (14, .int l14), (16, .int l16)] → cells + bc ≤ room_1.cells ∧ slots + bs ≤ room_1.slots → W p l e room_1 s m #[Value.ref b] below meth c H locs cells slots (lw_Z below #[Value.ref b] s) (F0 m 1035 ls [.int t0, .int t1]) := by
  have hx := X.1.1
  have hb := X.1.2.1
  have hJ1186 := jL_law_1186 (e := e) (below := below) l D cy G hGC hst hGE hGF adK adV hGK hGO hGQ dT dO hGT hGU b L xs hGX A X hr hlk hfree g15 ih15
  intro S bc bs l1 l2 l3 l4 l6 l7 l8 l9 l10 l12 l13 l14 l16 t0 t1 hf H locs ls cells slots hH hl hB
  refine lv_icmp_ne (tgt := 1184) hx hb dL_law_1035 (by decide) (fun c1 => ?_) (fun c1 => ?_)
  · have hf := (if_neg c1).mp hf
    refine lv_iconst (v := 0) hx hb dL_law_1184 (by decide) ?_
    exact hf.elim
  · have hf := (if_pos c1).mp hf
    refine lv_aload_n hx hb dL_law_1038 rfl (lv_at hl 1 rfl) ?_
    obtain ⟨mc3, ms3, hm1, hs1, hf⟩ := hf
    refine q_callXi X hH hB hm1 hs1 (q_runSx [.ref l1] [] X hH hl (c_L_bestMove l D cy G X.2.2.2.1 hst hGE S l1 mc3 ms3 _ _ hf) mw_L_bestMove tw_939 tw_938 ⟨Nat.le_of_ble_eq_true rfl, Nat.le_of_ble_eq_true rfl⟩ rfl (Nat.le_of_ble_eq_true rfl) dL_law_1039 ⟨Nat.le_trans (Nat.add_le_add_left hm1 _) hB.1, Nat.le_trans (Nat.add_le_add_left hs1 _) hB.2⟩) (fun _ _ _ _ hf _ _ _ _ _ _ _ _ _ => hf.elim) (fun v4 S2 hf H locs cells slots hH hB => ?_)
    refine lv_iload hx hb dL_law_1042 (lv_at hl 13 rfl) ?_
    refine lv_icmp_ne (tgt := 1184) hx hb dL_law_1044 (by decide) (fun c5 => ?_) (fun c5 => ?_)
    · have hf := (if_neg c5).mp hf
      refine lv_iconst (v := 0) hx hb dL_law_1184 (by decide) ?_
      exact hf.elim
    · have hf := (if_pos c5).mp hf
      refine lv_aload_n hx hb dL_law_1047 rfl (lv_at hl 1 rfl) ?_
      obtain ⟨hb1, hb2, hf⟩ := hf
      refine q_backI0 X hH (q_runV [] [] X hH hl (c_X7_parts l D cy G X.2.2.2.1 S2 l1 _ _ hf) mf_X7_parts mv_X7_parts tw_603 ⟨Nat.le_of_ble_eq_true rfl, Nat.le_of_ble_eq_true rfl⟩ hb1 hb2 (T := TX7) (N := 12) rfl rfl (Nat.le_of_ble_eq_true rfl) dL_law_1048 ⟨Nat.le_trans (Nat.le_add_right _ _) hB.1, Nat.le_trans (Nat.le_add_right _ _) hB.2⟩) (fun v7 S6 hf H locs hH => ?_)
      refine lv_iload hx hb dL_law_1051 (lv_at hl 10 rfl) ?_
      refine lv_icmp_ne (tgt := 1184) hx hb dL_law_1053 (by decide) (fun c8 => ?_) (fun c8 => ?_)
      · have hf := (if_neg c8).mp hf
        refine lv_iconst (v := 0) hx hb dL_law_1184 (by decide) ?_
        exact hf.elim
      · have hf := (if_pos c8).mp hf
        refine lv_aload_n hx hb dL_law_1056 rfl (lv_at hl 1 rfl) ?_
        refine lv_iconst (v := 1) hx hb dL_law_1057 (by decide) ?_
        obtain ⟨hb1, hb2, mc10, ms10, hm1, hs1, hf⟩ := hf
        refine q_callXi X hH hB hm1 hs1 (q_runVx [.int 1] [] X hH hl (c_X7_account l D cy G X.2.2.2.1 hst hGE S6 l1 1 mc10 ms10 _ _ _ hf) mf_X7_account mv_X7_account tw_835 ⟨Nat.le_of_ble_eq_true rfl, Nat.le_of_ble_eq_true rfl⟩ hb1 hb2 (T := TX7) (N := 12) rfl rfl (Nat.le_of_ble_eq_true rfl) dL_law_1058 ⟨Nat.le_trans (Nat.add_le_add_left hm1 _) hB.1, Nat.le_trans (Nat.add_le_add_left hs1 _) hB.2⟩) (fun _ _ _ _ hf _ _ _ _ _ _ _ _ _ => hf.elim) (fun v11 S9 hf H locs cells slots hH hB => ?_)
        refine lv_iload hx hb dL_law_1061 (lv_at hl 6 rfl) ?_
        refine lv_icmp_ne (tgt := 1184) hx hb dL_law_1063 (by decide) (fun c12 => ?_) (fun c12 => ?_)
        · have hf := (if_neg c12).mp hf
          refine lv_iconst (v := 0) hx hb dL_law_1184 (by decide) ?_
          exact hf.elim
        · have hf := (if_pos c12).mp hf
          refine lv_aload_n hx hb dL_law_1066 rfl (lv_at hl 1 rfl) ?_
          refine lv_iconst (v := 2) hx hb dL_law_1067 (by decide) ?_
          obtain ⟨hb1, hb2, mc14, ms14, hm1, hs1, hf⟩ := hf
          refine q_callXi X hH hB hm1 hs1 (q_runVx [.int 2] [] X hH hl (c_X7_account l D cy G X.2.2.2.1 hst hGE S9 l1 2 mc14 ms14 _ _ _ hf) mf_X7_account mv_X7_account tw_835 ⟨Nat.le_of_ble_eq_true rfl, Nat.le_of_ble_eq_true rfl⟩ hb1 hb2 (T := TX7) (N := 12) rfl rfl (Nat.le_of_ble_eq_true rfl) dL_law_1068 ⟨Nat.le_trans (Nat.add_le_add_left hm1 _) hB.1, Nat.le_trans (Nat.add_le_add_left hs1 _) hB.2⟩) (fun _ _ _ _ hf _ _ _ _ _ _ _ _ _ => hf.elim) (fun v15 S13 hf H locs cells slots hH hB => ?_)
          refine lv_iload hx hb dL_law_1071 (lv_at hl 7 rfl) ?_
          refine lv_icmp_ne (tgt := 1184) hx hb dL_law_1073 (by decide) (fun c16 => ?_) (fun c16 => ?_)
          · have hf := (if_neg c16).mp hf
            refine lv_iconst (v := 0) hx hb dL_law_1184 (by decide) ?_
            exact hf.elim
          · have hf := (if_pos c16).mp hf
            refine lv_aload_n hx hb dL_law_1076 rfl (lv_at hl 1 rfl) ?_
            refine lv_iconst (v := 3) hx hb dL_law_1077 (by decide) ?_
            obtain ⟨hb1, hb2, mc18, ms18, hm1, hs1, hf⟩ := hf
            refine q_callXi X hH hB hm1 hs1 (q_runVx [.int 3] [] X hH hl (c_X7_account l D cy G X.2.2.2.1 hst hGE S13 l1 3 mc18 ms18 _ _ _ hf) mf_X7_account mv_X7_account tw_835 ⟨Nat.le_of_ble_eq_true rfl, Nat.le_of_ble_eq_true rfl⟩ hb1 hb2 (T := TX7) (N := 12) rfl rfl (Nat.le_of_ble_eq_true rfl) dL_law_1078 ⟨Nat.le_trans (Nat.add_le_add_left hm1 _) hB.1, Nat.le_trans (Nat.add_le_add_left hs1 _) hB.2⟩) (fun _ _ _ _ hf _ _ _ _ _ _ _ _ _ => hf.elim) (fun v19 S17 hf H locs cells slots hH hB => ?_)
            refine lv_iload hx hb dL_law_1081 (lv_at hl 5 rfl) ?_
            refine q_backI0 X hH (q_runS [.int l6] [.int v19] X hH hl (c_J6_bitCount_0f7a4 l D cy G X.2.2.2.1 S17 l6 _ _ hf) mf_J6_bitCount_0f7a4 tw_849 tw_1210 ⟨Nat.le_of_ble_eq_true rfl, Nat.le_of_ble_eq_true rfl⟩ rfl (Nat.le_of_ble_eq_true rfl) dL_law_1083 ⟨Nat.le_trans (Nat.le_add_right _ _) hB.1, Nat.le_trans (Nat.le_add_right _ _) hB.2⟩) (fun v21 S20 hf H locs hH => ?_)
            refine lv_icmp_ne (tgt := 1184) hx hb dL_law_1086 (by decide) (fun c22 => ?_) (fun c22 => ?_)
            · have hf := (if_neg c22).mp hf
              refine lv_iconst (v := 0) hx hb dL_law_1184 (by decide) ?_
              exact hf.elim
            · have hf := (if_pos c22).mp hf
              refine lv_aload_n hx hb dL_law_1089 rfl (lv_at hl 1 rfl) ?_
              refine lv_iconst (v := 4) hx hb dL_law_1090 (by decide) ?_
              obtain ⟨hb1, hb2, mc24, ms24, hm1, hs1, hf⟩ := hf
              refine q_callXi X hH hB hm1 hs1 (q_runVx [.int 4] [] X hH hl (c_X7_account l D cy G X.2.2.2.1 hst hGE S20 l1 4 mc24 ms24 _ _ _ hf) mf_X7_account mv_X7_account tw_835 ⟨Nat.le_of_ble_eq_true rfl, Nat.le_of_ble_eq_true rfl⟩ hb1 hb2 (T := TX7) (N := 12) rfl rfl (Nat.le_of_ble_eq_true rfl) dL_law_1091 ⟨Nat.le_trans (Nat.add_le_add_left hm1 _) hB.1, Nat.le_trans (Nat.add_le_add_left hs1 _) hB.2⟩) (fun _ _ _ _ hf _ _ _ _ _ _ _ _ _ => hf.elim) (fun v25 S23 hf H locs cells slots hH hB => ?_)
              refine lv_iload hx hb dL_law_1094 (lv_at hl 8 rfl) ?_
              refine lv_icmp_ne (tgt := 1184) hx hb dL_law_1096 (by decide) (fun c26 => ?_) (fun c26 => ?_)
              · have hf := (if_neg c26).mp hf
                refine lv_iconst (v := 0) hx hb dL_law_1184 (by decide) ?_
                exact hf.elim
              · have hf := (if_pos c26).mp hf
                refine lv_aload_n hx hb dL_law_1099 rfl (lv_at hl 1 rfl) ?_
                refine lv_iconst (v := 5) hx hb dL_law_1100 (by decide) ?_
                obtain ⟨hb1, hb2, mc28, ms28, hm1, hs1, hf⟩ := hf
                refine q_callXi X hH hB hm1 hs1 (q_runVx [.int 5] [] X hH hl (c_X7_account l D cy G X.2.2.2.1 hst hGE S23 l1 5 mc28 ms28 _ _ _ hf) mf_X7_account mv_X7_account tw_835 ⟨Nat.le_of_ble_eq_true rfl, Nat.le_of_ble_eq_true rfl⟩ hb1 hb2 (T := TX7) (N := 12) rfl rfl (Nat.le_of_ble_eq_true rfl) dL_law_1101 ⟨Nat.le_trans (Nat.add_le_add_left hm1 _) hB.1, Nat.le_trans (Nat.add_le_add_left hs1 _) hB.2⟩) (fun _ _ _ _ hf _ _ _ _ _ _ _ _ _ => hf.elim) (fun v29 S27 hf H locs cells slots hH hB => ?_)
                refine lv_iload hx hb dL_law_1104 (lv_at hl 4 rfl) ?_
                refine lv_aload_n hx hb dL_law_1106 rfl (lv_at hl 1 rfl) ?_
                refine lv_bipush (v := 6) hx hb dL_law_1107 (by decide) ?_
                obtain ⟨hb1, hb2, mc31, ms31, hm1, hs1, hf⟩ := hf
                refine q_callXi X hH hB hm1 hs1 (q_runVx [.int 6] [.int l4, .int v29] X hH hl (c_X7_account l D cy G X.2.2.2.1 hst hGE S27 l1 6 mc31 ms31 _ _ _ hf) mf_X7_account mv_X7_account tw_835 ⟨Nat.le_of_ble_eq_true rfl, Nat.le_of_ble_eq_true rfl⟩ hb1 hb2 (T := TX7) (N := 12) rfl rfl (Nat.le_of_ble_eq_true rfl) dL_law_1109 ⟨Nat.le_trans (Nat.add_le_add_left hm1 _) hB.1, Nat.le_trans (Nat.add_le_add_left hs1 _) hB.2⟩) (fun _ _ _ _ hf _ _ _ _ _ _ _ _ _ => hf.elim) (fun v32 S30 hf H locs cells slots hH hB => ?_)
                refine lv_iadd hx hb dL_law_1112 ?_
                refine lv_icmp_ne (tgt := 1184) hx hb dL_law_1113 (by decide) (fun c33 => ?_) (fun c33 => ?_)
                · have hf := (if_neg c33).mp hf
                  refine lv_iconst (v := 0) hx hb dL_law_1184 (by decide) ?_
                  exact hf.elim
                · have hf := (if_pos c33).mp hf
                  refine lv_aload_n hx hb dL_law_1116 rfl (lv_at hl 1 rfl) ?_
                  refine lv_bipush (v := 7) hx hb dL_law_1117 (by decide) ?_
                  obtain ⟨hb1, hb2, mc35, ms35, hm1, hs1, hf⟩ := hf
                  refine q_callXi X hH hB hm1 hs1 (q_runVx [.int 7] [] X hH hl (c_X7_account l D cy G X.2.2.2.1 hst hGE S30 l1 7 mc35 ms35 _ _ _ hf) mf_X7_account mv_X7_account tw_835 ⟨Nat.le_of_ble_eq_true rfl, Nat.le_of_ble_eq_true rfl⟩ hb1 hb2 (T := TX7) (N := 12) rfl rfl (Nat.le_of_ble_eq_true rfl) dL_law_1119 ⟨Nat.le_trans (Nat.add_le_add_left hm1 _) hB.1, Nat.le_trans (Nat.add_le_add_left hs1 _) hB.2⟩) (fun _ _ _ _ hf _ _ _ _ _ _ _ _ _ => hf.elim) (fun v36 S34 hf H locs cells slots hH hB => ?_)
                  refine lv_aload_n hx hb dL_law_1122 rfl (lv_at hl 1 rfl) ?_
                  refine lv_bipush (v := 6) hx hb dL_law_1123 (by decide) ?_
                  obtain ⟨hb1, hb2, mc38, ms38, hm1, hs1, hf⟩ := hf
                  refine q_callXi X hH hB hm1 hs1 (q_runVx [.int 6] [.int v36] X hH hl (c_X7_account l D cy G X.2.2.2.1 hst hGE S34 l1 6 mc38 ms38 _ _ _ hf) mf_X7_account mv_X7_account tw_835 ⟨Nat.le_of_ble_eq_true rfl, Nat.le_of_ble_eq_true rfl⟩ hb1 hb2 (T := TX7) (N := 12) rfl rfl (Nat.le_of_ble_eq_true rfl) dL_law_1125 ⟨Nat.le_trans (Nat.add_le_add_left hm1 _) hB.1, Nat.le_trans (Nat.add_le_add_left hs1 _) hB.2⟩) (fun _ _ _ _ hf _ _ _ _ _ _ _ _ _ => hf.elim) (fun v39 S37 hf H locs cells slots hH hB => ?_)
                  refine lv_icmp_gt (tgt := 1184) hx hb dL_law_1128 (by decide) (fun c40 => ?_) (fun c40 => ?_)
                  · have hf := (if_pos c40).mp hf
                    refine lv_iconst (v := 0) hx hb dL_law_1184 (by decide) ?_
                    exact hf.elim
                  · have hf := (if_neg c40).mp hf
                    refine lv_aload_n hx hb dL_law_1131 rfl (lv_at hl 1 rfl) ?_
                    refine lv_bipush (v := 8) hx hb dL_law_1132 (by decide) ?_
                    obtain ⟨hb1, hb2, mc42, ms42, hm1, hs1, hf⟩ := hf
                    refine q_callXi X hH hB hm1 hs1 (q_runVx [.int 8] [] X hH hl (c_X7_account l D cy G X.2.2.2.1 hst hGE S37 l1 8 mc42 ms42 _ _ _ hf) mf_X7_account mv_X7_account tw_835 ⟨Nat.le_of_ble_eq_true rfl, Nat.le_of_ble_eq_true rfl⟩ hb1 hb2 (T := TX7) (N := 12) rfl rfl (Nat.le_of_ble_eq_true rfl) dL_law_1134 ⟨Nat.le_trans (Nat.add_le_add_left hm1 _) hB.1, Nat.le_trans (Nat.add_le_add_left hs1 _) hB.2⟩) (fun _ _ _ _ hf _ _ _ _ _ _ _ _ _ => hf.elim) (fun v43 S41 hf H locs cells slots hH hB => ?_)
                    refine lv_iload hx hb dL_law_1137 (lv_at hl 9 rfl) ?_
                    refine lv_icmp_ne (tgt := 1184) hx hb dL_law_1139 (by decide) (fun c44 => ?_) (fun c44 => ?_)
                    · have hf := (if_neg c44).mp hf
                      refine lv_iconst (v := 0) hx hb dL_law_1184 (by decide) ?_
                      exact hf.elim
                    · have hf := (if_pos c44).mp hf
                      refine lv_aload_n hx hb dL_law_1142 rfl (lv_at hl 1 rfl) ?_
                      obtain ⟨hb1, hb2, hf⟩ := hf
                      refine q_backI0 X hH (q_runV [] [] X hH hl (c_X7_isTold l D cy G X.2.2.2.1 S41 l1 _ _ hf) mf_X7_isTold mv_X7_isTold tw_641 ⟨Nat.le_of_ble_eq_true rfl, Nat.le_of_ble_eq_true rfl⟩ hb1 hb2 (T := TX7) (N := 12) rfl rfl (Nat.le_of_ble_eq_true rfl) dL_law_1143 ⟨Nat.le_trans (Nat.le_add_right _ _) hB.1, Nat.le_trans (Nat.le_add_right _ _) hB.2⟩) (fun v46 S45 hf H locs hH => ?_)
                      refine lv_if_eq (tgt := 1184) hx hb dL_law_1146 (by decide) (fun c47 => ?_) (fun c47 => ?_)
                      · have hf := (if_pos c47).mp hf
                        refine lv_iconst (v := 0) hx hb dL_law_1184 (by decide) ?_
                        exact hf.elim
                      · have hf := (if_neg c47).mp hf
                        refine lv_iload hx hb dL_law_1149 (lv_at hl 6 rfl) ?_
                        refine lv_if_le (tgt := 1186) hx hb dL_law_1151 (by decide) (fun c48 => ?_) (fun c48 => ?_)
                        · have hf := (if_pos c48).mp hf
                          exact hJ1186 S45 ((((((((((bc - mc3) - mc10) - mc14) - mc18) - mc24) - mc28) - mc31) - mc35) - mc38) - mc42) ((((((((((bs - ms3) - ms10) - ms14) - ms18) - ms24) - ms28) - ms31) - ms35) - ms38) - ms42) l1 l2 l3 l4 l14 hf H locs ls cells slots hH (lv_sub hl [0, 1, 2, 3, 4, 12] rfl) hB
                        · have hf := (if_neg c48).mp hf
                          refine lv_aload_n hx hb dL_law_1154 rfl (lv_at hl 1 rfl) ?_
                          obtain ⟨hb1, hb2, mc50, ms50, hm1, hs1, hf⟩ := hf
                          refine q_callXd X hH hB hm1 hs1 (q_runVx [] [] X hH hl (c_X7_meanWeight l D cy G X.2.2.2.1 hst hGE S45 l1 mc50 ms50 _ _ _ hf) mf_X7_meanWeight mv_X7_meanWeight tw_872 ⟨Nat.le_of_ble_eq_true rfl, Nat.le_of_ble_eq_true rfl⟩ hb1 hb2 (T := TX7) (N := 12) rfl rfl (Nat.le_of_ble_eq_true rfl) dL_law_1155 ⟨Nat.le_trans (Nat.add_le_add_left hm1 _) hB.1, Nat.le_trans (Nat.add_le_add_left hs1 _) hB.2⟩) (fun _ _ _ _ hf _ _ _ _ _ _ _ _ _ => hf.elim) (fun v51 S49 hf H locs cells slots hH hB => ?_)
                          refine lv_iload hx hb dL_law_1158 (lv_at hl 7 rfl) ?_
                          refine lv_i2d hx hb dL_law_1160 ?_
                          refine lv_iload hx hb dL_law_1161 (lv_at hl 6 rfl) ?_
                          refine lv_i2d hx hb dL_law_1163 ?_
                          refine lv_ddiv hx hb dL_law_1164 hf.1 ?_
                          have hf := hf.2
                          refine lv_dcmp hx hb dL_law_1165 ?_
                          refine lv_if_ne (tgt := 1184) hx hb dL_law_1166 (by decide) (fun c52 => ?_) (fun c52 => ?_)
                          · have hf := (if_neg c52).mp hf
                            refine lv_iconst (v := 0) hx hb dL_law_1184 (by decide) ?_
                            exact hf.elim
                          · have hf := (if_pos c52).mp hf
                            refine lv_aload_n hx hb dL_law_1169 rfl (lv_at hl 1 rfl) ?_
                            obtain ⟨hb1, hb2, mc54, ms54, hm1, hs1, hf⟩ := hf
                            refine q_callXf X hH hB hm1 hs1 (q_runVx [] [] X hH hl (c_X7_feudShare l D cy G X.2.2.2.1 hst hGE S49 l1 mc54 ms54 _ _ _ hf) mf_X7_feudShare mv_X7_feudShare tw_892 ⟨Nat.le_of_ble_eq_true rfl, Nat.le_of_ble_eq_true rfl⟩ hb1 hb2 (T := TX7) (N := 12) rfl rfl (Nat.le_of_ble_eq_true rfl) dL_law_1170 ⟨Nat.le_trans (Nat.add_le_add_left hm1 _) hB.1, Nat.le_trans (Nat.add_le_add_left hs1 _) hB.2⟩) (fun _ _ _ _ hf _ _ _ _ _ _ _ _ _ => hf.elim) (fun v55 S53 hf H locs cells slots hH hB => ?_)
                            refine lv_iload hx hb dL_law_1173 (lv_at hl 11 rfl) ?_
                            refine lv_i2f hx hb dL_law_1175 ?_
                            refine lv_iload hx hb dL_law_1176 (lv_at hl 7 rfl) ?_
                            refine lv_i2f hx hb dL_law_1178 ?_
                            refine lv_fdiv hx hb dL_law_1179 hf.1 ?_
                            have hf := hf.2
                            refine lv_fcmp hx hb dL_law_1180 ?_
                            refine lv_if_eq (tgt := 1186) hx hb dL_law_1181 (by decide) (fun c56 => ?_) (fun c56 => ?_)
                            · have hf := (if_pos c56).mp hf
                              exact hJ1186 S53 ((((((((((((bc - mc3) - mc10) - mc14) - mc18) - mc24) - mc28) - mc31) - mc35) - mc38) - mc42) - mc50) - mc54) ((((((((((((bs - ms3) - ms10) - ms14) - ms18) - ms24) - ms28) - ms31) - ms35) - ms38) - ms42) - ms50) - ms54) l1 l2 l3 l4 l14 hf H locs ls cells slots hH (lv_sub hl [0, 1, 2, 3, 4, 12] rfl) hB
                            · have hf := (if_neg c56).mp hf
                              refine lv_iconst (v := 0) hx hb dL_law_1184 (by decide) ?_
                              exact hf.elim
set_option maxHeartbeats 4000000 in
set_option maxRecDepth 100000 in
theorem jL_law_934 {p : Program} {e : Env} {s : State} {m : MethodId} {below : List Frame} {meth : Method} {c : Code} (l : Launch) (D : va_G) (cy : Nat → ClassId) (G : p_GT) (hGC : ∀ (A : Nat → Prop) (U : State) (H : Heap), G A U H → gC A U H) (hst : l.stackTraces = false) (hGE : ∀ (A : Nat → Prop) (U : State) (H : Heap), G A U H → p_Ex A U H) (hGF : ∀ (A : Nat → Prop) (U : State) (H : Heap), G A U H → gF A U H) (adK adV : Nat → Nat) (hGK : ∀ (A : Nat → Prop) (U : State) (H : Heap), G A U H → gK adK adV A U H) (hGO : ∀ (A : Nat → Prop) (U : State) (H : Heap), G A U H → va_AO "VillageFeud$Village" U) (hGQ : ∀ (A : Nat → Prop) (U : State) (H : Heap), G A U H → va_AOA .int U) (dT dO : Nat) (hGT : ∀ (A : Nat → Prop) (U : State) (H : Heap), G A U H → gT dT dO A U H) (hGU : ∀ (A : Nat → Prop) (U : State) (H : Heap), G A U H → gU A U H) (b L : Nat) (xs : Nat → Int32) (hGX : ∀ (A : Nat → Prop) (U : State) (H : Heap), G A U H → gX b L xs A U H) (A : Nat → Prop) (X : p_X p m c cL_law 30 s #[.ref b] RL D cy G A) (hr : meth.sig.returnType = ret) (hlk : meth.locks = false) (hfree : ∀ q, A q → s.heap.size ≤ q) (g15 : PS → Nat → Nat → Nat → Int32 → Prop) (ih15 : ∀ (S : PS) (bc bs : Nat) (l1 : Nat) (l2 : Int32), g15 S bc bs l1 l2 → ∀ (H : Heap) (locs : List Loc) (ls : Array Slot) (cells slots : Nat), p_H D cy S A s H locs → lv_has ls 30 [(0, .ref b), (1, .ref l1), (2, .int l2)] → cells + bc ≤ room_1.cells ∧ slots + bs ≤ room_1.slots → W p l e room_1 s m #[Value.ref b] below meth c H locs cells slots (lw_Z below #[Value.ref b] s) (F0 m 15 ls [])) : ∀ (S : PS) (bc bs : Nat) (l1 : Nat) (l2 : Int32) (l3 : Nat) (l4 : Int32) (l6 : Int32) (l7 : Int32) (l8 : Int32) (l9 : Int32) (l10 : Int32) (l11 : Int32) (l12 : Int32) (l13 : Int32) (l14 : Int32) (l15 : Int32) (l16 : Int32) (l17 : Nat) (l18 : Nat), f_L_law_J934 adK L xs g15 S bc bs l1 l2 l3 l4 l6 l7 l8 l9 l10 l11 l12 l13 l14 l15 l16 l17 l18 → ∀ (H : Heap) (locs : List Loc) (ls : Array Slot) (cells slots : Nat), p_H D cy S A s H locs → lv_has ls 30 [(0, .ref b), (1, .ref l1), (2, .int l2), (3, .ref l3), (4, .int l4), (6, .int l6), (7, .int l7), (8, .int l8), (9, .int l9), (10, .int l10), (11, .int l11), (12, .int l12), (13, .int l13), (14, .int l14), (15, .int l15), (16, .int l16), (17, .ref l17), (18, .ref l18)] → cells + bc ≤ room_1.cells ∧ slots + bs ≤ room_1.slots → W p l e room_1 s m #[Value.ref b] below meth c H locs cells slots (lw_Z below #[Value.ref b] s) (F0 m 934 ls []) := by
  have hx := X.1.1
  have hb := X.1.2.1
  have hJ1035 := jL_law_1035 (e := e) (below := below) l D cy G hGC hst hGE hGF adK adV hGK hGO hGQ dT dO hGT hGU b L xs hGX A X hr hlk hfree g15 ih15
  intro S bc bs l1 l2 l3 l4 l6 l7 l8 l9 l10 l11 l12 l13 l14 l15 l16 l17 l18 hf H locs ls cells slots hH hl hB
  refine lv_aload_n hx hb dL_law_934 rfl (lv_at hl 1 rfl) ?_
  refine lv_aload_n hx hb dL_law_935 rfl (lv_at hl 1 rfl) ?_
  obtain ⟨hb1, hb2, hf⟩ := hf
  obtain ⟨mc2, ms2, hm1, hs1, hf⟩ := hf
  refine q_backIB X hH hB hm1 hs1 (q_runV [] [.ref l1] X hH hl (c_X7_tell l D cy G X.2.2.2.1 hGC dT dO hGT hGU S l1 mc2 ms2 _ _ hf) mf_X7_tell mv_X7_tell tw_662 ⟨Nat.le_of_ble_eq_true rfl, Nat.le_of_ble_eq_true rfl⟩ hb1 hb2 (T := TX7) (N := 12) rfl rfl (Nat.le_of_ble_eq_true rfl) dL_law_936 ⟨Nat.le_trans (Nat.add_le_add_left hm1 _) hB.1, Nat.le_trans (Nat.add_le_add_left hs1 _) hB.2⟩) (fun v3 S1 hf H locs cells slots hH hB => ?_)
  refine lv_aload hx hb dL_law_939 (lv_at hl 16 rfl) ?_
  obtain ⟨mc5, ms5, hm1, hs1, hf⟩ := hf
  refine q_backIB X hH hB hm1 hs1 (q_runS [.ref l1, .int v3, .ref l17] [] X hH hl (c_L_isLine l D cy G X.2.2.2.1 hGC hst hGE hGF adK adV hGK S1 l1 v3 l17 mc5 ms5 _ _ hf) mf_L_isLine tw_1162 tw_1161 ⟨Nat.le_of_ble_eq_true rfl, Nat.le_of_ble_eq_true rfl⟩ rfl (Nat.le_of_ble_eq_true rfl) dL_law_941 ⟨Nat.le_trans (Nat.add_le_add_left hm1 _) hB.1, Nat.le_trans (Nat.add_le_add_left hs1 _) hB.2⟩) (fun v6 S4 hf H locs cells slots hH hB => ?_)
  refine lv_if_eq (tgt := 1184) hx hb dL_law_944 (by decide) (fun c7 => ?_) (fun c7 => ?_)
  · have hf := (if_pos c7).mp hf
    refine lv_iconst (v := 0) hx hb dL_law_1184 (by decide) ?_
    exact hf.elim
  · have hf := (if_neg c7).mp hf
    refine lv_aload_n hx hb dL_law_947 rfl (lv_at hl 1 rfl) ?_
    refine lv_aload_n hx hb dL_law_948 rfl (lv_at hl 1 rfl) ?_
    obtain ⟨hb1, hb2, hf⟩ := hf
    obtain ⟨mc9, ms9, hm1, hs1, hf⟩ := hf
    refine q_backIB X hH hB hm1 hs1 (q_runV [] [.ref l1] X hH hl (c_X7_tellSides l D cy G X.2.2.2.1 hGC dT dO hGT hGU S4 l1 mc9 ms9 _ _ hf) mf_X7_tellSides mv_X7_tellSides tw_831 ⟨Nat.le_of_ble_eq_true rfl, Nat.le_of_ble_eq_true rfl⟩ hb1 hb2 (T := TX7) (N := 12) rfl rfl (Nat.le_of_ble_eq_true rfl) dL_law_949 ⟨Nat.le_trans (Nat.add_le_add_left hm1 _) hB.1, Nat.le_trans (Nat.add_le_add_left hs1 _) hB.2⟩) (fun v10 S8 hf H locs cells slots hH hB => ?_)
    refine lv_aload hx hb dL_law_952 (lv_at hl 17 rfl) ?_
    obtain ⟨mc12, ms12, hm1, hs1, hf⟩ := hf
    refine q_backIB X hH hB hm1 hs1 (q_runS [.ref l1, .int v10, .ref l18] [] X hH hl (c_L_isLine l D cy G X.2.2.2.1 hGC hst hGE hGF adK adV hGK S8 l1 v10 l18 mc12 ms12 _ _ hf) mf_L_isLine tw_1162 tw_1161 ⟨Nat.le_of_ble_eq_true rfl, Nat.le_of_ble_eq_true rfl⟩ rfl (Nat.le_of_ble_eq_true rfl) dL_law_954 ⟨Nat.le_trans (Nat.add_le_add_left hm1 _) hB.1, Nat.le_trans (Nat.add_le_add_left hs1 _) hB.2⟩) (fun v13 S11 hf H locs cells slots hH hB => ?_)
    refine lv_if_eq (tgt := 1184) hx hb dL_law_957 (by decide) (fun c14 => ?_) (fun c14 => ?_)
    · have hf := (if_pos c14).mp hf
      refine lv_iconst (v := 0) hx hb dL_law_1184 (by decide) ?_
      exact hf.elim
    · have hf := (if_neg c14).mp hf
      refine lv_aload_n hx hb dL_law_960 rfl (lv_at hl 1 rfl) ?_
      refine lv_iload hx hb dL_law_961 (lv_at hl 6 rfl) ?_
      obtain ⟨mc16, ms16, hm1, hs1, hf⟩ := hf
      refine q_callXi X hH hB hm1 hs1 (q_runSx [.ref l1, .int l7] [] X hH hl (c_L_bondAt l D cy G X.2.2.2.1 hst hGE S11 l1 l7 mc16 ms16 _ _ hf) mw_L_bondAt tw_947 tw_946 ⟨Nat.le_of_ble_eq_true rfl, Nat.le_of_ble_eq_true rfl⟩ rfl (Nat.le_of_ble_eq_true rfl) dL_law_963 ⟨Nat.le_trans (Nat.add_le_add_left hm1 _) hB.1, Nat.le_trans (Nat.add_le_add_left hs1 _) hB.2⟩) (fun _ _ _ _ hf _ _ _ _ _ _ _ _ _ => hf.elim) (fun v17 S15 hf H locs cells slots hH hB => ?_)
      refine lv_sipush (v := (-30000)) hx hb dL_law_966 (by decide) ?_
      refine lv_icmp_ne (tgt := 1184) hx hb dL_law_969 (by decide) (fun c18 => ?_) (fun c18 => ?_)
      · have hf := (if_neg c18).mp hf
        refine lv_iconst (v := 0) hx hb dL_law_1184 (by decide) ?_
        exact hf.elim
      · have hf := (if_pos c18).mp hf
        refine lv_aload_n hx hb dL_law_972 rfl (lv_at hl 1 rfl) ?_
        obtain ⟨mc20, ms20, hm1, hs1, hf⟩ := hf
        refine q_callXi X hH hB hm1 hs1 (q_runSx [.ref l1] [] X hH hl (c_L_heaviest l D cy G X.2.2.2.1 hst hGE S15 l1 mc20 ms20 _ _ hf) mw_L_heaviest tw_959 tw_958 ⟨Nat.le_of_ble_eq_true rfl, Nat.le_of_ble_eq_true rfl⟩ rfl (Nat.le_of_ble_eq_true rfl) dL_law_973 ⟨Nat.le_trans (Nat.add_le_add_left hm1 _) hB.1, Nat.le_trans (Nat.add_le_add_left hs1 _) hB.2⟩) (fun _ _ _ _ hf _ _ _ _ _ _ _ _ _ => hf.elim) (fun v21 S19 hf H locs cells slots hH hB => ?_)
        refine lv_iload hx hb dL_law_976 (lv_at hl 10 rfl) ?_
        refine lv_icmp_ne (tgt := 1184) hx hb dL_law_978 (by decide) (fun c22 => ?_) (fun c22 => ?_)
        · have hf := (if_neg c22).mp hf
          refine lv_iconst (v := 0) hx hb dL_law_1184 (by decide) ?_
          exact hf.elim
        · have hf := (if_pos c22).mp hf
          refine lv_aload_n hx hb dL_law_981 rfl (lv_at hl 1 rfl) ?_
          obtain ⟨hb1, hb2, hf⟩ := hf
          refine q_backI0 X hH (q_runV [] [] X hH hl (c_X7_feud l D cy G X.2.2.2.1 S19 l1 _ _ hf) mf_X7_feud mv_X7_feud tw_422 ⟨Nat.le_of_ble_eq_true rfl, Nat.le_of_ble_eq_true rfl⟩ hb1 hb2 (T := TX7) (N := 12) rfl rfl (Nat.le_of_ble_eq_true rfl) dL_law_982 ⟨Nat.le_trans (Nat.le_add_right _ _) hB.1, Nat.le_trans (Nat.le_add_right _ _) hB.2⟩) (fun v24 S23 hf H locs hH => ?_)
          refine lv_iload hx hb dL_law_985 (lv_at hl 12 rfl) ?_
          refine lv_icmp_ne (tgt := 1184) hx hb dL_law_987 (by decide) (fun c25 => ?_) (fun c25 => ?_)
          · have hf := (if_neg c25).mp hf
            refine lv_iconst (v := 0) hx hb dL_law_1184 (by decide) ?_
            exact hf.elim
          · have hf := (if_pos c25).mp hf
            refine lv_aload_n hx hb dL_law_990 rfl (lv_at hl 1 rfl) ?_
            obtain ⟨hb1, hb2, hf⟩ := hf
            refine q_backI0 X hH (q_runV [] [] X hH hl (c_X7_feudAgain l D cy G X.2.2.2.1 S23 l1 _ _ hf) mf_X7_feudAgain mv_X7_feudAgain tw_430 ⟨Nat.le_of_ble_eq_true rfl, Nat.le_of_ble_eq_true rfl⟩ hb1 hb2 (T := TX7) (N := 12) rfl rfl (Nat.le_of_ble_eq_true rfl) dL_law_991 ⟨Nat.le_trans (Nat.le_add_right _ _) hB.1, Nat.le_trans (Nat.le_add_right _ _) hB.2⟩) (fun v27 S26 hf H locs hH => ?_)
            refine lv_iload hx hb dL_law_994 (lv_at hl 12 rfl) ?_
            refine lv_icmp_ne (tgt := 1184) hx hb dL_law_996 (by decide) (fun c28 => ?_) (fun c28 => ?_)
            · have hf := (if_neg c28).mp hf
              refine lv_iconst (v := 0) hx hb dL_law_1184 (by decide) ?_
              exact hf.elim
            · have hf := (if_pos c28).mp hf
              refine lv_aload_n hx hb dL_law_999 rfl (lv_at hl 1 rfl) ?_
              obtain ⟨mc30, ms30, hm1, hs1, hf⟩ := hf
              refine q_callXi X hH hB hm1 hs1 (q_runSx [.ref l1] [] X hH hl (c_L_least l D cy G X.2.2.2.1 hst hGE S26 l1 mc30 ms30 _ _ hf) mw_L_least tw_905 tw_904 ⟨Nat.le_of_ble_eq_true rfl, Nat.le_of_ble_eq_true rfl⟩ rfl (Nat.le_of_ble_eq_true rfl) dL_law_1000 ⟨Nat.le_trans (Nat.add_le_add_left hm1 _) hB.1, Nat.le_trans (Nat.add_le_add_left hs1 _) hB.2⟩) (fun _ _ _ _ hf _ _ _ _ _ _ _ _ _ => hf.elim) (fun v31 S29 hf H locs cells slots hH hB => ?_)
              refine lv_iload hx hb dL_law_1003 (lv_at hl 13 rfl) ?_
              refine lv_icmp_ne (tgt := 1184) hx hb dL_law_1005 (by decide) (fun c32 => ?_) (fun c32 => ?_)
              · have hf := (if_neg c32).mp hf
                refine lv_iconst (v := 0) hx hb dL_law_1184 (by decide) ?_
                exact hf.elim
              · have hf := (if_pos c32).mp hf
                refine lv_aload_n hx hb dL_law_1008 rfl (lv_at hl 1 rfl) ?_
                obtain ⟨mc34, ms34, hm1, hs1, hf⟩ := hf
                refine q_callXi X hH hB hm1 hs1 (q_runSx [.ref l1] [] X hH hl (c_L_leastAgain l D cy G X.2.2.2.1 hst hGE S29 l1 mc34 ms34 _ _ hf) mw_L_leastAgain tw_913 tw_912 ⟨Nat.le_of_ble_eq_true rfl, Nat.le_of_ble_eq_true rfl⟩ rfl (Nat.le_of_ble_eq_true rfl) dL_law_1009 ⟨Nat.le_trans (Nat.add_le_add_left hm1 _) hB.1, Nat.le_trans (Nat.add_le_add_left hs1 _) hB.2⟩) (fun _ _ _ _ hf _ _ _ _ _ _ _ _ _ => hf.elim) (fun v35 S33 hf H locs cells slots hH hB => ?_)
                refine lv_iload hx hb dL_law_1012 (lv_at hl 13 rfl) ?_
                refine lv_icmp_ne (tgt := 1184) hx hb dL_law_1014 (by decide) (fun c36 => ?_) (fun c36 => ?_)
                · have hf := (if_neg c36).mp hf
                  refine lv_iconst (v := 0) hx hb dL_law_1184 (by decide) ?_
                  exact hf.elim
                · have hf := (if_pos c36).mp hf
                  refine lv_aload_n hx hb dL_law_1017 rfl (lv_at hl 1 rfl) ?_
                  obtain ⟨mc38, ms38, hm1, hs1, hf⟩ := hf
                  refine q_callXi X hH hB hm1 hs1 (q_runSx [.ref l1] [] X hH hl (c_L_leastSides l D cy G X.2.2.2.1 hst hGE S33 l1 mc38 ms38 _ _ hf) mw_L_leastSides tw_927 tw_926 ⟨Nat.le_of_ble_eq_true rfl, Nat.le_of_ble_eq_true rfl⟩ rfl (Nat.le_of_ble_eq_true rfl) dL_law_1018 ⟨Nat.le_trans (Nat.add_le_add_left hm1 _) hB.1, Nat.le_trans (Nat.add_le_add_left hs1 _) hB.2⟩) (fun _ _ _ _ hf _ _ _ _ _ _ _ _ _ => hf.elim) (fun v39 S37 hf H locs cells slots hH hB => ?_)
                  refine lv_iload hx hb dL_law_1021 (lv_at hl 4 rfl) ?_
                  refine lv_iconst (v := 1) hx hb dL_law_1023 (by decide) ?_
                  refine lv_icmp_le (tgt := 1032) hx hb dL_law_1024 (by decide) (fun c40 => ?_) (fun c40 => ?_)
                  · have hf := (if_pos c40).mp hf
                    refine lv_sipush (v := (-30000)) hx hb dL_law_1032 (by decide) ?_
                    exact hJ1035 S37 (((((((((bc - mc2) - mc5) - mc9) - mc12) - mc16) - mc20) - mc30) - mc34) - mc38) (((((((((bs - ms2) - ms5) - ms9) - ms12) - ms16) - ms20) - ms30) - ms34) - ms38) l1 l2 l3 l4 l6 l7 l8 l9 l10 l12 l13 l14 l16 (-30000) v39 hf H locs ls cells slots hH (lv_sub hl [0, 1, 2, 3, 4, 5, 6, 7, 8, 9, 11, 12, 13, 15] rfl) hB
                  · have hf := (if_neg c40).mp hf
                    refine lv_iload hx hb dL_law_1027 (lv_at hl 14 rfl) ?_
                    refine lv_goto (tgt := 1035) hx hb dL_law_1029 (by decide) ?_
                    exact hJ1035 S37 (((((((((bc - mc2) - mc5) - mc9) - mc12) - mc16) - mc20) - mc30) - mc34) - mc38) (((((((((bs - ms2) - ms5) - ms9) - ms12) - ms16) - ms20) - ms30) - ms34) - ms38) l1 l2 l3 l4 l6 l7 l8 l9 l10 l12 l13 l14 l16 l15 v39 hf H locs ls cells slots hH (lv_sub hl [0, 1, 2, 3, 4, 5, 6, 7, 8, 9, 11, 12, 13, 15] rfl) hB
set_option maxHeartbeats 4000000 in
set_option maxRecDepth 100000 in
theorem jL_law_925 {p : Program} {e : Env} {s : State} {m : MethodId} {below : List Frame} {meth : Method} {c : Code} (l : Launch) (D : va_G) (cy : Nat → ClassId) (G : p_GT) (hGC : ∀ (A : Nat → Prop) (U : State) (H : Heap), G A U H → gC A U H) (hst : l.stackTraces = false) (hGE : ∀ (A : Nat → Prop) (U : State) (H : Heap), G A U H → p_Ex A U H) (hGF : ∀ (A : Nat → Prop) (U : State) (H : Heap), G A U H → gF A U H) (adK adV : Nat → Nat) (hGK : ∀ (A : Nat → Prop) (U : State) (H : Heap), G A U H → gK adK adV A U H) (hGO : ∀ (A : Nat → Prop) (U : State) (H : Heap), G A U H → va_AO "VillageFeud$Village" U) (hGQ : ∀ (A : Nat → Prop) (U : State) (H : Heap), G A U H → va_AOA .int U) (dT dO : Nat) (hGT : ∀ (A : Nat → Prop) (U : State) (H : Heap), G A U H → gT dT dO A U H) (hGU : ∀ (A : Nat → Prop) (U : State) (H : Heap), G A U H → gU A U H) (b L : Nat) (xs : Nat → Int32) (hGX : ∀ (A : Nat → Prop) (U : State) (H : Heap), G A U H → gX b L xs A U H) (A : Nat → Prop) (X : p_X p m c cL_law 30 s #[.ref b] RL D cy G A) (hr : meth.sig.returnType = ret) (hlk : meth.locks = false) (hfree : ∀ q, A q → s.heap.size ≤ q) (g900 : PS → Nat → Nat → Nat → Int32 → Nat → Int32 → Int32 → Int32 → Int32 → Int32 → Int32 → Int32 → Int32 → Int32 → Int32 → Int32 → Int32 → Int32 → Nat → Nat → Int32 → Prop) (ih900 : ∀ (S : PS) (bc bs : Nat) (l1 : Nat) (l2 : Int32) (l3 : Nat) (l4 : Int32) (l5 : Int32) (l6 : Int32) (l7 : Int32) (l8 : Int32) (l9 : Int32) (l10 : Int32) (l11 : Int32) (l12 : Int32) (l13 : Int32) (l14 : Int32) (l15 : Int32) (l16 : Int32) (l17 : Nat) (l18 : Nat) (l19 : Int32), g900 S bc bs l1 l2 l3 l4 l5 l6 l7 l8 l9 l10 l11 l12 l13 l14 l15 l16 l17 l18 l19 → ∀ (H : Heap) (locs : List Loc) (ls : Array Slot) (cells slots : Nat), p_H D cy S A s H locs → lv_has ls 30 [(0, .ref b), (1, .ref l1), (2, .int l2), (3, .ref l3), (4, .int l4), (5, .int l5), (6, .int l6), (7, .int l7), (8, .int l8), (9, .int l9), (10, .int l10), (11, .int l11), (12, .int l12), (13, .int l13), (14, .int l14), (15, .int l15), (16, .int l16), (17, .ref l17), (18, .ref l18), (19, .int l19)] → cells + bc ≤ room_1.cells ∧ slots + bs ≤ room_1.slots → W p l e room_1 s m #[Value.ref b] below meth c H locs cells slots (lw_Z below #[Value.ref b] s) (F0 m 900 ls [])) : ∀ (S : PS) (bc bs : Nat) (l1 : Nat) (l2 : Int32) (l3 : Nat) (l4 : Int32) (l5 : Int32) (l6 : Int32) (l7 : Int32) (l8 : Int32) (l9 : Int32) (l10 : Int32) (l11 : Int32) (l12 : Int32) (l13 : Int32) (l14 : Int32) (l16 : Int32) (l17 : Nat) (l18 : Nat) (l19 : Int32) (t0 : Int32) (t1 : Int32), f_L_law_J925 adK L xs g900 S bc bs l1 l2 l3 l4 l5 l6 l7 l8 l9 l10 l11 l12 l13 l14 l16 l17 l18 l19 t0 t1 → ∀ (H : Heap) (locs : List Loc) (ls : Array Slot) (cells slots : Nat), p_H D cy S A s H locs → lv_has ls 30 [(0, .ref b), (1, .ref l1), (2, .int l2), (3, .ref l3), (4, .int l4), (5, .int l5), (6, .int l6), (7, .int l7), (8, .int l8), (9, .int l9), (10, .int l10), (11, .int l11), (12, .int l12), (13, .int l13), (14, .int l14), (16, .int l16), (17, .ref l17), (18, .ref l18), (19, .int l19)] → cells + bc ≤ room_1.cells ∧ slots + bs ≤ room_1.slots → W p l e room_1 s m #[Value.ref b] below meth c H locs cells slots (lw_Z below #[Value.ref b] s) (F0 m 925 ls [.int t0, .int t1]) := by
  have hx := X.1.1
  have hb := X.1.2.1
  intro S bc bs l1 l2 l3 l4 l5 l6 l7 l8 l9 l10 l11 l12 l13 l14 l16 l17 l18 l19 t0 t1 hf H locs ls cells slots hH hl hB
  refine lv_iadd hx hb dL_law_925 ?_
  refine lv_istore (lv' := [(15, .int (t1 + t0)), (0, .ref b), (1, .ref l1), (2, .int l2), (3, .ref l3), (4, .int l4), (5, .int l5), (6, .int l6), (7, .int l7), (8, .int l8), (9, .int l9), (10, .int l10), (11, .int l11), (12, .int l12), (13, .int l13), (14, .int l14), (16, .int l16), (17, .ref l17), (18, .ref l18), (19, .int l19)]) hx hb dL_law_926 hl (by decide) rfl (fun ls hl => ?_)
  refine lv_iinc (v := l19 + 2) (lv' := [(19, .int (l19 + 2)), (15, .int (t1 + t0)), (0, .ref b), (1, .ref l1), (2, .int l2), (3, .ref l3), (4, .int l4), (5, .int l5), (6, .int l6), (7, .int l7), (8, .int l8), (9, .int l9), (10, .int l10), (11, .int l11), (12, .int l12), (13, .int l13), (14, .int l14), (16, .int l16), (17, .ref l17), (18, .ref l18)]) hx hb dL_law_928 hl (k := 19) rfl rfl (by decide) rfl (fun ls hl => ?_)
  refine lv_goto (tgt := 900) hx hb dL_law_931 (by decide) ?_
  exact ih900 S bc bs l1 l2 l3 l4 l5 l6 l7 l8 l9 l10 l11 l12 l13 l14 (t1 + t0) l16 l17 l18 (l19 + 2) hf H locs ls cells slots hH (lv_sub hl [2, 3, 4, 5, 6, 7, 8, 9, 10, 11, 12, 13, 14, 15, 16, 1, 17, 18, 19, 0] rfl) hB
