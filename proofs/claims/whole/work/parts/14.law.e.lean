set_option maxHeartbeats 4000000 in
set_option maxRecDepth 100000 in
theorem jL_law_2394 {p : Program} {e : Env} {s : State} {m : MethodId} {below : List Frame} {meth : Method} {c : Code} (l : Launch) (D : va_G) (cy : Nat → ClassId) (G : p_GT) (hGC : ∀ (A : Nat → Prop) (U : State) (H : Heap), G A U H → gC A U H) (hst : l.stackTraces = false) (hGE : ∀ (A : Nat → Prop) (U : State) (H : Heap), G A U H → p_Ex A U H) (hGF : ∀ (A : Nat → Prop) (U : State) (H : Heap), G A U H → gF A U H) (adK adV : Nat → Nat) (hGK : ∀ (A : Nat → Prop) (U : State) (H : Heap), G A U H → gK adK adV A U H) (hGN : ∀ (A : Nat → Prop) (U : State) (H : Heap), G A U H → gN A U H) (hGO : ∀ (A : Nat → Prop) (U : State) (H : Heap), G A U H → va_AO "VillageFeud$Village" U) (dT dO : Nat) (hGT : ∀ (A : Nat → Prop) (U : State) (H : Heap), G A U H → gT dT dO A U H) (hGU : ∀ (A : Nat → Prop) (U : State) (H : Heap), G A U H → gU A U H) (A : Nat → Prop) (b L : Nat) (xs : Nat → Int32) (X : p_X p m c cL_law 9 s #[.ref b] RL D cy G A) (hr : meth.sig.returnType = ret) (hlk : meth.locks = false) (hX : va_X b L xs s s.heap) (hbl : b < s.heap.size) (hbA : ¬ A b) (hfree : ∀ q, A q → s.heap.size ≤ q) (g28 : PS → Nat → Nat → Nat → Nat → Nat → Nat → Int32 → Prop) (ih28 : ∀ (S : PS) (bc bs : Nat) (l1 : Nat) (l2 : Nat) (l3 : Nat) (l4 : Nat) (l5 : Int32), g28 S bc bs l1 l2 l3 l4 l5 → ∀ (H : Heap) (locs : List Loc) (ls : Array Slot) (cells slots : Nat), p_H D cy S A s H locs → lv_has ls 9 [(0, .ref b), (1, .ref l1), (2, .ref l2), (3, .ref l3), (4, .ref l4), (5, .int l5)] → cells + bc ≤ room_1.cells ∧ slots + bs ≤ room_1.slots → W p l e room_1 s m #[Value.ref b] below meth c H locs cells slots (lw_Z below #[Value.ref b] s) (F0 m 28 ls [])) : ∀ (S : PS) (bc bs : Nat) (l1 : Nat) (l2 : Nat) (l3 : Nat) (l4 : Nat) (l5 : Int32), f_L_law_J2394 adK L xs g28 S bc bs l1 l2 l3 l4 l5 → ∀ (H : Heap) (locs : List Loc) (ls : Array Slot) (cells slots : Nat), p_H D cy S A s H locs → lv_has ls 9 [(0, .ref b), (1, .ref l1), (2, .ref l2), (3, .ref l3), (4, .ref l4), (5, .int l5)] → cells + bc ≤ room_1.cells ∧ slots + bs ≤ room_1.slots → W p l e room_1 s m #[Value.ref b] below meth c H locs cells slots (lw_Z below #[Value.ref b] s) (F0 m 2394 ls []) := by
  have hx := X.1.1
  have hb := X.1.2.1
  have hJ2561 := jL_law_2561 l D cy G hGC hst hGE hGF adK adV hGK hGN hGO dT dO hGT hGU A b L xs X hr hlk hX hbl hbA hfree g28 ih28
  intro S bc bs l1 l2 l3 l4 l5 hf H locs ls cells slots hH hl hB
  have hJ2457 : ∀ (S : PS) (bc bs : Nat) (l1 : Nat) (l2 : Nat) (l3 : Nat) (l4 : Nat) (l5 : Int32), f_L_law_J2457 adK L xs g28 S bc bs l1 l2 l3 l4 l5 → ∀ (H : Heap) (locs : List Loc) (ls : Array Slot) (cells slots : Nat), p_H D cy S A s H locs → lv_has ls 9 [(0, .ref b), (1, .ref l1), (2, .ref l2), (3, .ref l3), (4, .ref l4), (5, .int l5)] → cells + bc ≤ room_1.cells ∧ slots + bs ≤ room_1.slots → W p l e room_1 s m [.ref b].toArray below meth c H locs cells slots (lw_Z below #[Value.ref b] s) (F0 m 2457 ls []) := by
    intro S bc bs l1 l2 l3 l4 l5 hf H locs ls cells slots hH hl hB
    refine lv_goto (tgt := 2561) hx hb dL_law_2457 (by decide) ?_
    exact hJ2561 S bc bs l1 l2 l3 l4 l5 hf H locs ls cells slots hH hl hB
  refine lv_aload_n hx hb dL_law_2394 rfl (lv_at hl 1 rfl) ?_
  refine lv_aload hx hb dL_law_2395 (lv_at hl 4 rfl) ?_
  obtain ⟨mc2, ms2, hm1, hs1, hf⟩ := hf
  refine q_callXi X hH hB hm1 hs1 (q_runSx [.ref l1, .ref l4] [] X hH hl (c_L_feudShare l D cy G X.2.2.2.1 hst hGE S l1 l4 mc2 ms2 _ _ hf) mw_L_feudShare tw_1573 tw_1572 ⟨Nat.le_of_ble_eq_true rfl, Nat.le_of_ble_eq_true rfl⟩ rfl (Nat.le_of_ble_eq_true rfl) dL_law_2397 ⟨Nat.le_trans (Nat.add_le_add_left hm1 _) hB.1, Nat.le_trans (Nat.add_le_add_left hs1 _) hB.2⟩) (fun _ _ _ _ hf _ _ _ _ _ _ _ _ _ => hf.elim) (fun v3 S1 hf H locs cells slots hH hB => ?_)
  refine lv_istore (lv' := [(6, .int v3), (0, .ref b), (1, .ref l1), (2, .ref l2), (3, .ref l3), (4, .ref l4), (5, .int l5)]) hx hb dL_law_2400 hl (by decide) rfl (fun ls hl => ?_)
  refine lv_aload_n hx hb dL_law_2402 rfl (lv_at hl 3 rfl) ?_
  obtain ⟨hb1, hb2, hf⟩ := hf
  refine q_backF0 X hH (q_runV [] [] X hH hl (c_X8_feudShare l D cy G X.2.2.2.1 S1 l2 _ _ hf) mf_X8_feudShare mv_X8_feudShare tw_2084 ⟨Nat.le_of_ble_eq_true rfl, Nat.le_of_ble_eq_true rfl⟩ hb1 hb2 (T := TX8) (N := 25) rfl rfl (Nat.le_of_ble_eq_true rfl) dL_law_2403 ⟨Nat.le_trans (Nat.le_add_right _ _) hB.1, Nat.le_trans (Nat.le_add_right _ _) hB.2⟩) (fun v5 S4 hf H locs hH => ?_)
  refine lv_fstore (lv' := [(7, .float v5), (6, .int v3), (0, .ref b), (1, .ref l1), (2, .ref l2), (3, .ref l3), (4, .ref l4), (5, .int l5)]) hx hb dL_law_2406 hl (by decide) rfl (fun ls hl => ?_)
  refine lv_aload_n hx hb dL_law_2408 rfl (lv_at hl 4 rfl) ?_
  obtain ⟨hb1, hb2, hf⟩ := hf
  refine q_backI0 X hH (q_runV [] [] X hH hl (c_X8_thrown l D cy G X.2.2.2.1 S4 l2 _ _ hf) mf_X8_thrown mv_X8_thrown tw_1686 ⟨Nat.le_of_ble_eq_true rfl, Nat.le_of_ble_eq_true rfl⟩ hb1 hb2 (T := TX8) (N := 25) rfl rfl (Nat.le_of_ble_eq_true rfl) dL_law_2409 ⟨Nat.le_trans (Nat.le_add_right _ _) hB.1, Nat.le_trans (Nat.le_add_right _ _) hB.2⟩) (fun v7 S6 hf H locs hH => ?_)
  refine lv_iload hx hb dL_law_2412 (lv_at hl 1 rfl) ?_
  refine lv_icmp_eq (tgt := 2419) hx hb dL_law_2414 (by decide) (fun c8 => ?_) (fun c8 => ?_)
  · have hf := (if_pos c8).mp hf
    refine lv_iload hx hb dL_law_2419 (lv_at hl 1 rfl) ?_
    refine lv_if_ne (tgt := 2457) hx hb dL_law_2421 (by decide) (fun c9 => ?_) (fun c9 => ?_)
    · have hf := (if_neg c9).mp hf
      exact hJ2457 S6 (bc - mc2) (bs - ms2) l1 l2 l3 l4 l5 hf H locs ls cells slots hH (lv_sub hl [2, 3, 4, 5, 6, 7] rfl) hB
    · have hf := (if_pos c9).mp hf
      refine lv_aload hx hb dL_law_2424 (lv_at hl 6 rfl) ?_
      refine lv_iconst (v := 0) hx hb dL_law_2426 (by decide) ?_
      refine q_dald X hH hf dL_law_2427 (fun v10 hf => ?_)
      refine lv_fload hx hb dL_law_2428 (lv_at hl 0 rfl) ?_
      refine lv_f2d hx hb dL_law_2430 hf.1 ?_
      have hf := hf.2
      refine lv_dcmp hx hb dL_law_2431 ?_
      refine lv_if_eq (tgt := 2457) hx hb dL_law_2432 (by decide) (fun c11 => ?_) (fun c11 => ?_)
      · have hf := (if_pos c11).mp hf
        exact hJ2457 S6 (bc - mc2) (bs - ms2) l1 l2 l3 l4 l5 hf H locs ls cells slots hH (lv_sub hl [2, 3, 4, 5, 6, 7] rfl) hB
      · have hf := (if_neg c11).mp hf
        refine lv_aload hx hb dL_law_2435 (lv_at hl 6 rfl) ?_
        refine lv_iconst (v := 0) hx hb dL_law_2437 (by decide) ?_
        refine q_dald X hH hf dL_law_2438 (fun v12 hf => ?_)
        refine lv_aload hx hb dL_law_2439 (lv_at hl 6 rfl) ?_
        refine lv_iconst (v := 0) hx hb dL_law_2441 (by decide) ?_
        refine q_dald X hH hf dL_law_2442 (fun v13 hf => ?_)
        refine lv_dcmp hx hb dL_law_2443 ?_
        refine lv_if_eq (tgt := 2455) hx hb dL_law_2444 (by decide) (fun c14 => ?_) (fun c14 => ?_)
        · have hf := (if_pos c14).mp hf
          refine lv_iconst (v := 0) hx hb dL_law_2455 (by decide) ?_
          exact hf.elim
        · have hf := (if_neg c14).mp hf
          refine lv_fload hx hb dL_law_2447 (lv_at hl 0 rfl) ?_
          refine lv_fload hx hb dL_law_2449 (lv_at hl 0 rfl) ?_
          refine lv_fcmp hx hb dL_law_2451 ?_
          refine lv_if_ne (tgt := 2457) hx hb dL_law_2452 (by decide) (fun c15 => ?_) (fun c15 => ?_)
          · have hf := (if_neg c15).mp hf
            exact hJ2457 S6 (bc - mc2) (bs - ms2) l1 l2 l3 l4 l5 hf H locs ls cells slots hH (lv_sub hl [2, 3, 4, 5, 6, 7] rfl) hB
          · have hf := (if_pos c15).mp hf
            refine lv_iconst (v := 0) hx hb dL_law_2455 (by decide) ?_
            exact hf.elim
  · have hf := (if_neg c8).mp hf
    refine lv_iconst (v := 0) hx hb dL_law_2417 (by decide) ?_
    exact hf.elim
set_option maxHeartbeats 4000000 in
set_option maxRecDepth 100000 in
theorem jL_law_2460 {p : Program} {e : Env} {s : State} {m : MethodId} {below : List Frame} {meth : Method} {c : Code} (l : Launch) (D : va_G) (cy : Nat → ClassId) (G : p_GT) (hGC : ∀ (A : Nat → Prop) (U : State) (H : Heap), G A U H → gC A U H) (hst : l.stackTraces = false) (hGE : ∀ (A : Nat → Prop) (U : State) (H : Heap), G A U H → p_Ex A U H) (hGF : ∀ (A : Nat → Prop) (U : State) (H : Heap), G A U H → gF A U H) (adK adV : Nat → Nat) (hGK : ∀ (A : Nat → Prop) (U : State) (H : Heap), G A U H → gK adK adV A U H) (hGN : ∀ (A : Nat → Prop) (U : State) (H : Heap), G A U H → gN A U H) (hGO : ∀ (A : Nat → Prop) (U : State) (H : Heap), G A U H → va_AO "VillageFeud$Village" U) (dT dO : Nat) (hGT : ∀ (A : Nat → Prop) (U : State) (H : Heap), G A U H → gT dT dO A U H) (hGU : ∀ (A : Nat → Prop) (U : State) (H : Heap), G A U H → gU A U H) (A : Nat → Prop) (b L : Nat) (xs : Nat → Int32) (X : p_X p m c cL_law 9 s #[.ref b] RL D cy G A) (hr : meth.sig.returnType = ret) (hlk : meth.locks = false) (hX : va_X b L xs s s.heap) (hbl : b < s.heap.size) (hbA : ¬ A b) (hfree : ∀ q, A q → s.heap.size ≤ q) (g28 : PS → Nat → Nat → Nat → Nat → Nat → Nat → Int32 → Prop) (ih28 : ∀ (S : PS) (bc bs : Nat) (l1 : Nat) (l2 : Nat) (l3 : Nat) (l4 : Nat) (l5 : Int32), g28 S bc bs l1 l2 l3 l4 l5 → ∀ (H : Heap) (locs : List Loc) (ls : Array Slot) (cells slots : Nat), p_H D cy S A s H locs → lv_has ls 9 [(0, .ref b), (1, .ref l1), (2, .ref l2), (3, .ref l3), (4, .ref l4), (5, .int l5)] → cells + bc ≤ room_1.cells ∧ slots + bs ≤ room_1.slots → W p l e room_1 s m #[Value.ref b] below meth c H locs cells slots (lw_Z below #[Value.ref b] s) (F0 m 28 ls [])) : ∀ (S : PS) (bc bs : Nat) (l1 : Nat) (l2 : Nat) (l3 : Nat) (l4 : Nat) (l5 : Int32), f_L_law_J2460 adK L xs g28 S bc bs l1 l2 l3 l4 l5 → ∀ (H : Heap) (locs : List Loc) (ls : Array Slot) (cells slots : Nat), p_H D cy S A s H locs → lv_has ls 9 [(0, .ref b), (1, .ref l1), (2, .ref l2), (3, .ref l3), (4, .ref l4), (5, .int l5)] → cells + bc ≤ room_1.cells ∧ slots + bs ≤ room_1.slots → W p l e room_1 s m #[Value.ref b] below meth c H locs cells slots (lw_Z below #[Value.ref b] s) (F0 m 2460 ls []) := by
  have hx := X.1.1
  have hb := X.1.2.1
  have hJ2561 := jL_law_2561 l D cy G hGC hst hGE hGF adK adV hGK hGN hGO dT dO hGT hGU A b L xs X hr hlk hX hbl hbA hfree g28 ih28
  intro S bc bs l1 l2 l3 l4 l5 hf H locs ls cells slots hH hl hB
  have hJ2501 : ∀ (S : PS) (bc bs : Nat) (l1 : Nat) (l2 : Nat) (l3 : Nat) (l4 : Nat) (l5 : Int32), f_L_law_J2501 adK L xs g28 S bc bs l1 l2 l3 l4 l5 → ∀ (H : Heap) (locs : List Loc) (ls : Array Slot) (cells slots : Nat), p_H D cy S A s H locs → lv_has ls 9 [(0, .ref b), (1, .ref l1), (2, .ref l2), (3, .ref l3), (4, .ref l4), (5, .int l5)] → cells + bc ≤ room_1.cells ∧ slots + bs ≤ room_1.slots → W p l e room_1 s m [.ref b].toArray below meth c H locs cells slots (lw_Z below #[Value.ref b] s) (F0 m 2501 ls []) := by
    intro S bc bs l1 l2 l3 l4 l5 hf H locs ls cells slots hH hl hB
    refine lv_goto (tgt := 2561) hx hb dL_law_2501 (by decide) ?_
    exact hJ2561 S bc bs l1 l2 l3 l4 l5 hf H locs ls cells slots hH hl hB
  refine lv_aload_n hx hb dL_law_2460 rfl (lv_at hl 1 rfl) ?_
  refine lv_aload_n hx hb dL_law_2461 rfl (lv_at hl 3 rfl) ?_
  obtain ⟨mc2, ms2, hm1, hs1, hf⟩ := hf
  refine q_callXi X hH hB hm1 hs1 (q_runSx [.ref l1, .ref l3] [] X hH hl (c_L_undo l D cy G X.2.2.2.1 hst hGE S l1 l3 mc2 ms2 _ _ hf) mw_L_undo tw_1580 tw_1579 ⟨Nat.le_of_ble_eq_true rfl, Nat.le_of_ble_eq_true rfl⟩ rfl (Nat.le_of_ble_eq_true rfl) dL_law_2462 ⟨Nat.le_trans (Nat.add_le_add_left hm1 _) hB.1, Nat.le_trans (Nat.add_le_add_left hs1 _) hB.2⟩) (fun _ _ _ _ hf _ _ _ _ _ _ _ _ _ => hf.elim) (fun v3 S1 hf H locs cells slots hH hB => ?_)
  refine lv_istore (lv' := [(6, .int v3), (0, .ref b), (1, .ref l1), (2, .ref l2), (3, .ref l3), (4, .ref l4), (5, .int l5)]) hx hb dL_law_2465 hl (by decide) rfl (fun ls hl => ?_)
  refine lv_aload_n hx hb dL_law_2467 rfl (lv_at hl 3 rfl) ?_
  obtain ⟨hb1, hb2, hf⟩ := hf
  refine q_backI0 X hH (q_runV [] [] X hH hl (c_X8_undo l D cy G X.2.2.2.1 S1 l2 _ _ hf) mf_X8_undo mv_X8_undo tw_2088 ⟨Nat.le_of_ble_eq_true rfl, Nat.le_of_ble_eq_true rfl⟩ hb1 hb2 (T := TX8) (N := 25) rfl rfl (Nat.le_of_ble_eq_true rfl) dL_law_2468 ⟨Nat.le_trans (Nat.le_add_right _ _) hB.1, Nat.le_trans (Nat.le_add_right _ _) hB.2⟩) (fun v5 S4 hf H locs hH => ?_)
  refine lv_istore (lv' := [(7, .int v5), (6, .int v3), (0, .ref b), (1, .ref l1), (2, .ref l2), (3, .ref l3), (4, .ref l4), (5, .int l5)]) hx hb dL_law_2471 hl (by decide) rfl (fun ls hl => ?_)
  refine lv_aload_n hx hb dL_law_2473 rfl (lv_at hl 4 rfl) ?_
  obtain ⟨hb1, hb2, hf⟩ := hf
  refine q_backI0 X hH (q_runV [] [] X hH hl (c_X8_thrown l D cy G X.2.2.2.1 S4 l2 _ _ hf) mf_X8_thrown mv_X8_thrown tw_1686 ⟨Nat.le_of_ble_eq_true rfl, Nat.le_of_ble_eq_true rfl⟩ hb1 hb2 (T := TX8) (N := 25) rfl rfl (Nat.le_of_ble_eq_true rfl) dL_law_2474 ⟨Nat.le_trans (Nat.le_add_right _ _) hB.1, Nat.le_trans (Nat.le_add_right _ _) hB.2⟩) (fun v7 S6 hf H locs hH => ?_)
  refine lv_iload hx hb dL_law_2477 (lv_at hl 1 rfl) ?_
  refine lv_icmp_eq (tgt := 2484) hx hb dL_law_2479 (by decide) (fun c8 => ?_) (fun c8 => ?_)
  · have hf := (if_pos c8).mp hf
    refine lv_iload hx hb dL_law_2484 (lv_at hl 1 rfl) ?_
    refine lv_if_ne (tgt := 2501) hx hb dL_law_2486 (by decide) (fun c9 => ?_) (fun c9 => ?_)
    · have hf := (if_neg c9).mp hf
      exact hJ2501 S6 (bc - mc2) (bs - ms2) l1 l2 l3 l4 l5 hf H locs ls cells slots hH (lv_sub hl [2, 3, 4, 5, 6, 7] rfl) hB
    · have hf := (if_pos c9).mp hf
      refine lv_aload_n hx hb dL_law_2489 rfl (lv_at hl 5 rfl) ?_
      refine lv_iconst (v := 0) hx hb dL_law_2490 (by decide) ?_
      refine q_lald X hH hf dL_law_2491 (fun v10 hf => ?_)
      refine lv_iload hx hb dL_law_2492 (lv_at hl 0 rfl) ?_
      refine lv_i2l (v := v5.toInt64) hx hb dL_law_2494 rfl ?_
      refine W.lcmp hx hb dL_law_2495 ?_
      refine lv_if_eq (tgt := 2501) hx hb dL_law_2496 (by decide) (fun c11 => ?_) (fun c11 => ?_)
      · have hf := (if_pos c11).mp hf
        exact hJ2501 S6 (bc - mc2) (bs - ms2) l1 l2 l3 l4 l5 hf H locs ls cells slots hH (lv_sub hl [2, 3, 4, 5, 6, 7] rfl) hB
      · have hf := (if_neg c11).mp hf
        refine lv_iconst (v := 0) hx hb dL_law_2499 (by decide) ?_
        exact hf.elim
  · have hf := (if_neg c8).mp hf
    refine lv_iconst (v := 0) hx hb dL_law_2482 (by decide) ?_
    exact hf.elim
set_option maxHeartbeats 4000000 in
set_option maxRecDepth 100000 in
theorem jL_law_2504 {p : Program} {e : Env} {s : State} {m : MethodId} {below : List Frame} {meth : Method} {c : Code} (l : Launch) (D : va_G) (cy : Nat → ClassId) (G : p_GT) (hGC : ∀ (A : Nat → Prop) (U : State) (H : Heap), G A U H → gC A U H) (hst : l.stackTraces = false) (hGE : ∀ (A : Nat → Prop) (U : State) (H : Heap), G A U H → p_Ex A U H) (hGF : ∀ (A : Nat → Prop) (U : State) (H : Heap), G A U H → gF A U H) (adK adV : Nat → Nat) (hGK : ∀ (A : Nat → Prop) (U : State) (H : Heap), G A U H → gK adK adV A U H) (hGN : ∀ (A : Nat → Prop) (U : State) (H : Heap), G A U H → gN A U H) (hGO : ∀ (A : Nat → Prop) (U : State) (H : Heap), G A U H → va_AO "VillageFeud$Village" U) (dT dO : Nat) (hGT : ∀ (A : Nat → Prop) (U : State) (H : Heap), G A U H → gT dT dO A U H) (hGU : ∀ (A : Nat → Prop) (U : State) (H : Heap), G A U H → gU A U H) (A : Nat → Prop) (b L : Nat) (xs : Nat → Int32) (X : p_X p m c cL_law 9 s #[.ref b] RL D cy G A) (hr : meth.sig.returnType = ret) (hlk : meth.locks = false) (hX : va_X b L xs s s.heap) (hbl : b < s.heap.size) (hbA : ¬ A b) (hfree : ∀ q, A q → s.heap.size ≤ q) (g28 : PS → Nat → Nat → Nat → Nat → Nat → Nat → Int32 → Prop) (ih28 : ∀ (S : PS) (bc bs : Nat) (l1 : Nat) (l2 : Nat) (l3 : Nat) (l4 : Nat) (l5 : Int32), g28 S bc bs l1 l2 l3 l4 l5 → ∀ (H : Heap) (locs : List Loc) (ls : Array Slot) (cells slots : Nat), p_H D cy S A s H locs → lv_has ls 9 [(0, .ref b), (1, .ref l1), (2, .ref l2), (3, .ref l3), (4, .ref l4), (5, .int l5)] → cells + bc ≤ room_1.cells ∧ slots + bs ≤ room_1.slots → W p l e room_1 s m #[Value.ref b] below meth c H locs cells slots (lw_Z below #[Value.ref b] s) (F0 m 28 ls [])) : ∀ (S : PS) (bc bs : Nat) (l1 : Nat) (l2 : Nat) (l3 : Nat) (l4 : Nat) (l5 : Int32), f_L_law_J2504 adK L xs g28 S bc bs l1 l2 l3 l4 l5 → ∀ (H : Heap) (locs : List Loc) (ls : Array Slot) (cells slots : Nat), p_H D cy S A s H locs → lv_has ls 9 [(0, .ref b), (1, .ref l1), (2, .ref l2), (3, .ref l3), (4, .ref l4), (5, .int l5)] → cells + bc ≤ room_1.cells ∧ slots + bs ≤ room_1.slots → W p l e room_1 s m #[Value.ref b] below meth c H locs cells slots (lw_Z below #[Value.ref b] s) (F0 m 2504 ls []) := by
  have hx := X.1.1
  have hb := X.1.2.1
  have hJ2561 := jL_law_2561 l D cy G hGC hst hGE hGF adK adV hGK hGN hGO dT dO hGT hGU A b L xs X hr hlk hX hbl hbA hfree g28 ih28
  intro S bc bs l1 l2 l3 l4 l5 hf H locs ls cells slots hH hl hB
  refine lv_aload_n hx hb dL_law_2504 rfl (lv_at hl 1 rfl) ?_
  obtain ⟨hb1, hb2, hf⟩ := hf
  obtain ⟨mc2, ms2, hm1, hs1, hf⟩ := hf
  refine q_backIB X hH hB hm1 hs1 (q_runV [] [] X hH hl (c_X7_save l D cy G X.2.2.2.1 S l1 mc2 ms2 _ _ hf) mf_X7_save mv_X7_save tw_940 ⟨Nat.le_of_ble_eq_true rfl, Nat.le_of_ble_eq_true rfl⟩ hb1 hb2 (T := TX7) (N := 12) rfl rfl (Nat.le_of_ble_eq_true rfl) dL_law_2505 ⟨Nat.le_trans (Nat.add_le_add_left hm1 _) hB.1, Nat.le_trans (Nat.add_le_add_left hs1 _) hB.2⟩) (fun v3 S1 hf H locs cells slots hH hB => ?_)
  refine lv_aload_n hx hb dL_law_2508 rfl (lv_at hl 2 rfl) ?_
  obtain ⟨hb1, hb2, hf⟩ := hf
  refine q_backI0 X hH (q_runV [] [.int v3] X hH hl (c_X8_save l D cy G X.2.2.2.1 S1 l2 _ _ hf) mf_X8_save mv_X8_save tw_2092 ⟨Nat.le_of_ble_eq_true rfl, Nat.le_of_ble_eq_true rfl⟩ hb1 hb2 (T := TX8) (N := 25) rfl rfl (Nat.le_of_ble_eq_true rfl) dL_law_2509 ⟨Nat.le_trans (Nat.le_add_right _ _) hB.1, Nat.le_trans (Nat.le_add_right _ _) hB.2⟩) (fun v5 S4 hf H locs hH => ?_)
  refine lv_icmp_eq (tgt := 2561) hx hb dL_law_2512 (by decide) (fun c6 => ?_) (fun c6 => ?_)
  · have hf := (if_pos c6).mp hf
    exact hJ2561 S4 (bc - mc2) (bs - ms2) l1 l2 l3 l4 l5 hf H locs ls cells slots hH hl hB
  · have hf := (if_neg c6).mp hf
    refine lv_iconst (v := 0) hx hb dL_law_2515 (by decide) ?_
    exact hf.elim
set_option maxHeartbeats 4000000 in
set_option maxRecDepth 100000 in
theorem jL_law_2517 {p : Program} {e : Env} {s : State} {m : MethodId} {below : List Frame} {meth : Method} {c : Code} (l : Launch) (D : va_G) (cy : Nat → ClassId) (G : p_GT) (hGC : ∀ (A : Nat → Prop) (U : State) (H : Heap), G A U H → gC A U H) (hst : l.stackTraces = false) (hGE : ∀ (A : Nat → Prop) (U : State) (H : Heap), G A U H → p_Ex A U H) (hGF : ∀ (A : Nat → Prop) (U : State) (H : Heap), G A U H → gF A U H) (adK adV : Nat → Nat) (hGK : ∀ (A : Nat → Prop) (U : State) (H : Heap), G A U H → gK adK adV A U H) (hGN : ∀ (A : Nat → Prop) (U : State) (H : Heap), G A U H → gN A U H) (hGO : ∀ (A : Nat → Prop) (U : State) (H : Heap), G A U H → va_AO "VillageFeud$Village" U) (dT dO : Nat) (hGT : ∀ (A : Nat → Prop) (U : State) (H : Heap), G A U H → gT dT dO A U H) (hGU : ∀ (A : Nat → Prop) (U : State) (H : Heap), G A U H → gU A U H) (A : Nat → Prop) (b L : Nat) (xs : Nat → Int32) (X : p_X p m c cL_law 9 s #[.ref b] RL D cy G A) (hr : meth.sig.returnType = ret) (hlk : meth.locks = false) (hX : va_X b L xs s s.heap) (hbl : b < s.heap.size) (hbA : ¬ A b) (hfree : ∀ q, A q → s.heap.size ≤ q) (g28 : PS → Nat → Nat → Nat → Nat → Nat → Nat → Int32 → Prop) (ih28 : ∀ (S : PS) (bc bs : Nat) (l1 : Nat) (l2 : Nat) (l3 : Nat) (l4 : Nat) (l5 : Int32), g28 S bc bs l1 l2 l3 l4 l5 → ∀ (H : Heap) (locs : List Loc) (ls : Array Slot) (cells slots : Nat), p_H D cy S A s H locs → lv_has ls 9 [(0, .ref b), (1, .ref l1), (2, .ref l2), (3, .ref l3), (4, .ref l4), (5, .int l5)] → cells + bc ≤ room_1.cells ∧ slots + bs ≤ room_1.slots → W p l e room_1 s m #[Value.ref b] below meth c H locs cells slots (lw_Z below #[Value.ref b] s) (F0 m 28 ls [])) : ∀ (S : PS) (bc bs : Nat) (l1 : Nat) (l2 : Nat) (l3 : Nat) (l4 : Nat) (l5 : Int32), f_L_law_J2517 adK L xs g28 S bc bs l1 l2 l3 l4 l5 → ∀ (H : Heap) (locs : List Loc) (ls : Array Slot) (cells slots : Nat), p_H D cy S A s H locs → lv_has ls 9 [(0, .ref b), (1, .ref l1), (2, .ref l2), (3, .ref l3), (4, .ref l4), (5, .int l5)] → cells + bc ≤ room_1.cells ∧ slots + bs ≤ room_1.slots → W p l e room_1 s m #[Value.ref b] below meth c H locs cells slots (lw_Z below #[Value.ref b] s) (F0 m 2517 ls []) := by
  have hx := X.1.1
  have hb := X.1.2.1
  have hJ2561 := jL_law_2561 l D cy G hGC hst hGE hGF adK adV hGK hGN hGO dT dO hGT hGU A b L xs X hr hlk hX hbl hbA hfree g28 ih28
  intro S bc bs l1 l2 l3 l4 l5 hf H locs ls cells slots hH hl hB
  have hJ2558 : ∀ (S : PS) (bc bs : Nat) (l1 : Nat) (l2 : Nat) (l3 : Nat) (l4 : Nat) (l5 : Int32), f_L_law_J2558 adK L xs g28 S bc bs l1 l2 l3 l4 l5 → ∀ (H : Heap) (locs : List Loc) (ls : Array Slot) (cells slots : Nat), p_H D cy S A s H locs → lv_has ls 9 [(0, .ref b), (1, .ref l1), (2, .ref l2), (3, .ref l3), (4, .ref l4), (5, .int l5)] → cells + bc ≤ room_1.cells ∧ slots + bs ≤ room_1.slots → W p l e room_1 s m [.ref b].toArray below meth c H locs cells slots (lw_Z below #[Value.ref b] s) (F0 m 2558 ls []) := by
    intro S bc bs l1 l2 l3 l4 l5 hf H locs ls cells slots hH hl hB
    refine lv_goto (tgt := 2561) hx hb dL_law_2558 (by decide) ?_
    exact hJ2561 S bc bs l1 l2 l3 l4 l5 hf H locs ls cells slots hH hl hB
  refine lv_aload_n hx hb dL_law_2517 rfl (lv_at hl 1 rfl) ?_
  refine lv_aload_n hx hb dL_law_2518 rfl (lv_at hl 3 rfl) ?_
  obtain ⟨mc2, ms2, hm1, hs1, hf⟩ := hf
  refine q_callXi X hH hB hm1 hs1 (q_runSx [.ref l1, .ref l3] [] X hH hl (c_L_restore l D cy G X.2.2.2.1 hst hGE S l1 l3 mc2 ms2 _ _ hf) mw_L_restore tw_1592 tw_1591 ⟨Nat.le_of_ble_eq_true rfl, Nat.le_of_ble_eq_true rfl⟩ rfl (Nat.le_of_ble_eq_true rfl) dL_law_2519 ⟨Nat.le_trans (Nat.add_le_add_left hm1 _) hB.1, Nat.le_trans (Nat.add_le_add_left hs1 _) hB.2⟩) (fun _ _ _ _ hf _ _ _ _ _ _ _ _ _ => hf.elim) (fun v3 S1 hf H locs cells slots hH hB => ?_)
  refine lv_istore (lv' := [(6, .int v3), (0, .ref b), (1, .ref l1), (2, .ref l2), (3, .ref l3), (4, .ref l4), (5, .int l5)]) hx hb dL_law_2522 hl (by decide) rfl (fun ls hl => ?_)
  refine lv_aload_n hx hb dL_law_2524 rfl (lv_at hl 3 rfl) ?_
  obtain ⟨hb1, hb2, hf⟩ := hf
  refine q_backI0 X hH (q_runV [] [] X hH hl (c_X8_restore l D cy G X.2.2.2.1 S1 l2 _ _ hf) mf_X8_restore mv_X8_restore tw_2096 ⟨Nat.le_of_ble_eq_true rfl, Nat.le_of_ble_eq_true rfl⟩ hb1 hb2 (T := TX8) (N := 25) rfl rfl (Nat.le_of_ble_eq_true rfl) dL_law_2525 ⟨Nat.le_trans (Nat.le_add_right _ _) hB.1, Nat.le_trans (Nat.le_add_right _ _) hB.2⟩) (fun v5 S4 hf H locs hH => ?_)
  refine lv_istore (lv' := [(7, .int v5), (6, .int v3), (0, .ref b), (1, .ref l1), (2, .ref l2), (3, .ref l3), (4, .ref l4), (5, .int l5)]) hx hb dL_law_2528 hl (by decide) rfl (fun ls hl => ?_)
  refine lv_aload_n hx hb dL_law_2530 rfl (lv_at hl 4 rfl) ?_
  obtain ⟨hb1, hb2, hf⟩ := hf
  refine q_backI0 X hH (q_runV [] [] X hH hl (c_X8_thrown l D cy G X.2.2.2.1 S4 l2 _ _ hf) mf_X8_thrown mv_X8_thrown tw_1686 ⟨Nat.le_of_ble_eq_true rfl, Nat.le_of_ble_eq_true rfl⟩ hb1 hb2 (T := TX8) (N := 25) rfl rfl (Nat.le_of_ble_eq_true rfl) dL_law_2531 ⟨Nat.le_trans (Nat.le_add_right _ _) hB.1, Nat.le_trans (Nat.le_add_right _ _) hB.2⟩) (fun v7 S6 hf H locs hH => ?_)
  refine lv_iload hx hb dL_law_2534 (lv_at hl 1 rfl) ?_
  refine lv_icmp_eq (tgt := 2541) hx hb dL_law_2536 (by decide) (fun c8 => ?_) (fun c8 => ?_)
  · have hf := (if_pos c8).mp hf
    refine lv_iload hx hb dL_law_2541 (lv_at hl 1 rfl) ?_
    refine lv_if_ne (tgt := 2558) hx hb dL_law_2543 (by decide) (fun c9 => ?_) (fun c9 => ?_)
    · have hf := (if_neg c9).mp hf
      exact hJ2558 S6 (bc - mc2) (bs - ms2) l1 l2 l3 l4 l5 hf H locs ls cells slots hH (lv_sub hl [2, 3, 4, 5, 6, 7] rfl) hB
    · have hf := (if_pos c9).mp hf
      refine lv_aload_n hx hb dL_law_2546 rfl (lv_at hl 5 rfl) ?_
      refine lv_iconst (v := 0) hx hb dL_law_2547 (by decide) ?_
      refine q_lald X hH hf dL_law_2548 (fun v10 hf => ?_)
      refine lv_iload hx hb dL_law_2549 (lv_at hl 0 rfl) ?_
      refine lv_i2l (v := v5.toInt64) hx hb dL_law_2551 rfl ?_
      refine W.lcmp hx hb dL_law_2552 ?_
      refine lv_if_eq (tgt := 2558) hx hb dL_law_2553 (by decide) (fun c11 => ?_) (fun c11 => ?_)
      · have hf := (if_pos c11).mp hf
        exact hJ2558 S6 (bc - mc2) (bs - ms2) l1 l2 l3 l4 l5 hf H locs ls cells slots hH (lv_sub hl [2, 3, 4, 5, 6, 7] rfl) hB
      · have hf := (if_neg c11).mp hf
        refine lv_iconst (v := 0) hx hb dL_law_2556 (by decide) ?_
        exact hf.elim
  · have hf := (if_neg c8).mp hf
    refine lv_iconst (v := 0) hx hb dL_law_2539 (by decide) ?_
    exact hf.elim
set_option maxHeartbeats 4000000 in
set_option maxRecDepth 100000 in
theorem jL_law_28 {p : Program} {e : Env} {s : State} {m : MethodId} {below : List Frame} {meth : Method} {c : Code} (l : Launch) (D : va_G) (cy : Nat → ClassId) (G : p_GT) (hGC : ∀ (A : Nat → Prop) (U : State) (H : Heap), G A U H → gC A U H) (hst : l.stackTraces = false) (hGE : ∀ (A : Nat → Prop) (U : State) (H : Heap), G A U H → p_Ex A U H) (hGF : ∀ (A : Nat → Prop) (U : State) (H : Heap), G A U H → gF A U H) (adK adV : Nat → Nat) (hGK : ∀ (A : Nat → Prop) (U : State) (H : Heap), G A U H → gK adK adV A U H) (hGN : ∀ (A : Nat → Prop) (U : State) (H : Heap), G A U H → gN A U H) (hGO : ∀ (A : Nat → Prop) (U : State) (H : Heap), G A U H → va_AO "VillageFeud$Village" U) (dT dO : Nat) (hGT : ∀ (A : Nat → Prop) (U : State) (H : Heap), G A U H → gT dT dO A U H) (hGU : ∀ (A : Nat → Prop) (U : State) (H : Heap), G A U H → gU A U H) (A : Nat → Prop) (b L : Nat) (xs : Nat → Int32) (X : p_X p m c cL_law 9 s #[.ref b] RL D cy G A) (hr : meth.sig.returnType = ret) (hlk : meth.locks = false) (hX : va_X b L xs s s.heap) (hbl : b < s.heap.size) (hbA : ¬ A b) (hfree : ∀ q, A q → s.heap.size ≤ q) : ∀ (n28 : Nat) (S : PS) (bc bs : Nat) (l1 : Nat) (l2 : Nat) (l3 : Nat) (l4 : Nat) (l5 : Int32), f_L_law_L28 adK L xs n28 S bc bs l1 l2 l3 l4 l5 → ∀ (H : Heap) (locs : List Loc) (ls : Array Slot) (cells slots : Nat), p_H D cy S A s H locs → lv_has ls 9 [(0, .ref b), (1, .ref l1), (2, .ref l2), (3, .ref l3), (4, .ref l4), (5, .int l5)] → cells + bc ≤ room_1.cells ∧ slots + bs ≤ room_1.slots → W p l e room_1 s m #[Value.ref b] below meth c H locs cells slots (lw_Z below #[Value.ref b] s) (F0 m 28 ls []) := by
  have hx := X.1.1
  have hb := X.1.2.1
  intro n28
  induction n28 with
  | zero => intro S bc bs l1 l2 l3 l4 l5 hf; exact hf.elim
  | succ n28 ih28 =>
  have hJ2561 := jL_law_2561 l D cy G hGC hst hGE hGF adK adV hGK hGN hGO dT dO hGT hGU A b L xs X hr hlk hX hbl hbA hfree (f_L_law_L28 adK L xs n28) ih28
  have hJ244 := jL_law_244 l D cy G hGC hst hGE hGF adK adV hGK hGN hGO dT dO hGT hGU A b L xs X hr hlk hX hbl hbA hfree (f_L_law_L28 adK L xs n28) ih28
  have hJ288 := jL_law_288 l D cy G hGC hst hGE hGF adK adV hGK hGN hGO dT dO hGT hGU A b L xs X hr hlk hX hbl hbA hfree (f_L_law_L28 adK L xs n28) ih28
  have hJ344 := jL_law_344 l D cy G hGC hst hGE hGF adK adV hGK hGN hGO dT dO hGT hGU A b L xs X hr hlk hX hbl hbA hfree (f_L_law_L28 adK L xs n28) ih28
  have hJ424 := jL_law_424 l D cy G hGC hst hGE hGF adK adV hGK hGN hGO dT dO hGT hGU A b L xs X hr hlk hX hbl hbA hfree (f_L_law_L28 adK L xs n28) ih28
  have hJ492 := jL_law_492 l D cy G hGC hst hGE hGF adK adV hGK hGN hGO dT dO hGT hGU A b L xs X hr hlk hX hbl hbA hfree (f_L_law_L28 adK L xs n28) ih28
  have hJ560 := jL_law_560 l D cy G hGC hst hGE hGF adK adV hGK hGN hGO dT dO hGT hGU A b L xs X hr hlk hX hbl hbA hfree (f_L_law_L28 adK L xs n28) ih28
  have hJ628 := jL_law_628 l D cy G hGC hst hGE hGF adK adV hGK hGN hGO dT dO hGT hGU A b L xs X hr hlk hX hbl hbA hfree (f_L_law_L28 adK L xs n28) ih28
  have hJ672 := jL_law_672 l D cy G hGC hst hGE hGF adK adV hGK hGN hGO dT dO hGT hGU A b L xs X hr hlk hX hbl hbA hfree (f_L_law_L28 adK L xs n28) ih28
  have hJ740 := jL_law_740 l D cy G hGC hst hGE hGF adK adV hGK hGN hGO dT dO hGT hGU A b L xs X hr hlk hX hbl hbA hfree (f_L_law_L28 adK L xs n28) ih28
  have hJ808 := jL_law_808 l D cy G hGC hst hGE hGF adK adV hGK hGN hGO dT dO hGT hGU A b L xs X hr hlk hX hbl hbA hfree (f_L_law_L28 adK L xs n28) ih28
  have hJ876 := jL_law_876 l D cy G hGC hst hGE hGF adK adV hGK hGN hGO dT dO hGT hGU A b L xs X hr hlk hX hbl hbA hfree (f_L_law_L28 adK L xs n28) ih28
  have hJ889 := jL_law_889 l D cy G hGC hst hGE hGF adK adV hGK hGN hGO dT dO hGT hGU A b L xs X hr hlk hX hbl hbA hfree (f_L_law_L28 adK L xs n28) ih28
  have hJ902 := jL_law_902 l D cy G hGC hst hGE hGF adK adV hGK hGN hGO dT dO hGT hGU A b L xs X hr hlk hX hbl hbA hfree (f_L_law_L28 adK L xs n28) ih28
  have hJ915 := jL_law_915 l D cy G hGC hst hGE hGF adK adV hGK hGN hGO dT dO hGT hGU A b L xs X hr hlk hX hbl hbA hfree (f_L_law_L28 adK L xs n28) ih28
  have hJ983 := jL_law_983 l D cy G hGC hst hGE hGF adK adV hGK hGN hGO dT dO hGT hGU A b L xs X hr hlk hX hbl hbA hfree (f_L_law_L28 adK L xs n28) ih28
  have hJ1051 := jL_law_1051 l D cy G hGC hst hGE hGF adK adV hGK hGN hGO dT dO hGT hGU A b L xs X hr hlk hX hbl hbA hfree (f_L_law_L28 adK L xs n28) ih28
  have hJ1119 := jL_law_1119 l D cy G hGC hst hGE hGF adK adV hGK hGN hGO dT dO hGT hGU A b L xs X hr hlk hX hbl hbA hfree (f_L_law_L28 adK L xs n28) ih28
  have hJ1163 := jL_law_1163 l D cy G hGC hst hGE hGF adK adV hGK hGN hGO dT dO hGT hGU A b L xs X hr hlk hX hbl hbA hfree (f_L_law_L28 adK L xs n28) ih28
  have hJ1207 := jL_law_1207 l D cy G hGC hst hGE hGF adK adV hGK hGN hGO dT dO hGT hGU A b L xs X hr hlk hX hbl hbA hfree (f_L_law_L28 adK L xs n28) ih28
  have hJ1251 := jL_law_1251 l D cy G hGC hst hGE hGF adK adV hGK hGN hGO dT dO hGT hGU A b L xs X hr hlk hX hbl hbA hfree (f_L_law_L28 adK L xs n28) ih28
  have hJ1295 := jL_law_1295 l D cy G hGC hst hGE hGF adK adV hGK hGN hGO dT dO hGT hGU A b L xs X hr hlk hX hbl hbA hfree (f_L_law_L28 adK L xs n28) ih28
  have hJ1363 := jL_law_1363 l D cy G hGC hst hGE hGF adK adV hGK hGN hGO dT dO hGT hGU A b L xs X hr hlk hX hbl hbA hfree (f_L_law_L28 adK L xs n28) ih28
  have hJ1431 := jL_law_1431 l D cy G hGC hst hGE hGF adK adV hGK hGN hGO dT dO hGT hGU A b L xs X hr hlk hX hbl hbA hfree (f_L_law_L28 adK L xs n28) ih28
  have hJ1475 := jL_law_1475 l D cy G hGC hst hGE hGF adK adV hGK hGN hGO dT dO hGT hGU A b L xs X hr hlk hX hbl hbA hfree (f_L_law_L28 adK L xs n28) ih28
  have hJ1531 := jL_law_1531 l D cy G hGC hst hGE hGF adK adV hGK hGN hGO dT dO hGT hGU A b L xs X hr hlk hX hbl hbA hfree (f_L_law_L28 adK L xs n28) ih28
  have hJ1611 := jL_law_1611 l D cy G hGC hst hGE hGF adK adV hGK hGN hGO dT dO hGT hGU A b L xs X hr hlk hX hbl hbA hfree (f_L_law_L28 adK L xs n28) ih28
  have hJ1686 := jL_law_1686 l D cy G hGC hst hGE hGF adK adV hGK hGN hGO dT dO hGT hGU A b L xs X hr hlk hX hbl hbA hfree (f_L_law_L28 adK L xs n28) ih28
  have hJ1699 := jL_law_1699 l D cy G hGC hst hGE hGF adK adV hGK hGN hGO dT dO hGT hGU A b L xs X hr hlk hX hbl hbA hfree (f_L_law_L28 adK L xs n28) ih28
  have hJ1755 := jL_law_1755 l D cy G hGC hst hGE hGF adK adV hGK hGN hGO dT dO hGT hGU A b L xs X hr hlk hX hbl hbA hfree (f_L_law_L28 adK L xs n28) ih28
  have hJ1811 := jL_law_1811 l D cy G hGC hst hGE hGF adK adV hGK hGN hGO dT dO hGT hGU A b L xs X hr hlk hX hbl hbA hfree (f_L_law_L28 adK L xs n28) ih28
  have hJ1855 := jL_law_1855 l D cy G hGC hst hGE hGF adK adV hGK hGN hGO dT dO hGT hGU A b L xs X hr hlk hX hbl hbA hfree (f_L_law_L28 adK L xs n28) ih28
  have hJ1923 := jL_law_1923 l D cy G hGC hst hGE hGF adK adV hGK hGN hGO dT dO hGT hGU A b L xs X hr hlk hX hbl hbA hfree (f_L_law_L28 adK L xs n28) ih28
  have hJ1936 := jL_law_1936 l D cy G hGC hst hGE hGF adK adV hGK hGN hGO dT dO hGT hGU A b L xs X hr hlk hX hbl hbA hfree (f_L_law_L28 adK L xs n28) ih28
  have hJ1994 := jL_law_1994 l D cy G hGC hst hGE hGF adK adV hGK hGN hGO dT dO hGT hGU A b L xs X hr hlk hX hbl hbA hfree (f_L_law_L28 adK L xs n28) ih28
  have hJ2038 := jL_law_2038 l D cy G hGC hst hGE hGF adK adV hGK hGN hGO dT dO hGT hGU A b L xs X hr hlk hX hbl hbA hfree (f_L_law_L28 adK L xs n28) ih28
  have hJ2051 := jL_law_2051 l D cy G hGC hst hGE hGF adK adV hGK hGN hGO dT dO hGT hGU A b L xs X hr hlk hX hbl hbA hfree (f_L_law_L28 adK L xs n28) ih28
  have hJ2135 := jL_law_2135 l D cy G hGC hst hGE hGF adK adV hGK hGN hGO dT dO hGT hGU A b L xs X hr hlk hX hbl hbA hfree (f_L_law_L28 adK L xs n28) ih28
  have hJ2148 := jL_law_2148 l D cy G hGC hst hGE hGF adK adV hGK hGN hGO dT dO hGT hGU A b L xs X hr hlk hX hbl hbA hfree (f_L_law_L28 adK L xs n28) ih28
  have hJ2204 := jL_law_2204 l D cy G hGC hst hGE hGF adK adV hGK hGN hGO dT dO hGT hGU A b L xs X hr hlk hX hbl hbA hfree (f_L_law_L28 adK L xs n28) ih28
  have hJ2217 := jL_law_2217 l D cy G hGC hst hGE hGF adK adV hGK hGN hGO dT dO hGT hGU A b L xs X hr hlk hX hbl hbA hfree (f_L_law_L28 adK L xs n28) ih28
  have hJ2273 := jL_law_2273 l D cy G hGC hst hGE hGF adK adV hGK hGN hGO dT dO hGT hGU A b L xs X hr hlk hX hbl hbA hfree (f_L_law_L28 adK L xs n28) ih28
  have hJ2329 := jL_law_2329 l D cy G hGC hst hGE hGF adK adV hGK hGN hGO dT dO hGT hGU A b L xs X hr hlk hX hbl hbA hfree (f_L_law_L28 adK L xs n28) ih28
  have hJ2394 := jL_law_2394 l D cy G hGC hst hGE hGF adK adV hGK hGN hGO dT dO hGT hGU A b L xs X hr hlk hX hbl hbA hfree (f_L_law_L28 adK L xs n28) ih28
  have hJ2460 := jL_law_2460 l D cy G hGC hst hGE hGF adK adV hGK hGN hGO dT dO hGT hGU A b L xs X hr hlk hX hbl hbA hfree (f_L_law_L28 adK L xs n28) ih28
  have hJ2504 := jL_law_2504 l D cy G hGC hst hGE hGF adK adV hGK hGN hGO dT dO hGT hGU A b L xs X hr hlk hX hbl hbA hfree (f_L_law_L28 adK L xs n28) ih28
  have hJ2517 := jL_law_2517 l D cy G hGC hst hGE hGF adK adV hGK hGN hGO dT dO hGT hGU A b L xs X hr hlk hX hbl hbA hfree (f_L_law_L28 adK L xs n28) ih28
  intro S bc bs l1 l2 l3 l4 l5 hf H locs ls cells slots hH hl hB
  refine lv_iload hx hb dL_law_28 (lv_at hl 5 rfl) ?_
  refine lv_aload_n hx hb dL_law_30 rfl (lv_at hl 0 rfl) ?_
  refine va_slen hx hb hX hbl hbA hH.2.2 dL_law_31 ?_
  refine lv_iconst (v := 4) hx hb dL_law_32 (by decide) ?_
  refine lv_isub hx hb dL_law_33 ?_
  refine lv_icmp_gt (tgt := 2567) hx hb dL_law_34 (by decide) (fun c1 => ?_) (fun c1 => ?_)
  · have hf := (if_pos c1).mp hf
    refine lv_iconst (v := 1) hx hb dL_law_2567 (by decide) ?_
    exact va_forget (fun q hq => hfree _ (hH.2.2.2.2 q hq)) (W.widen (Nat.le_trans (Nat.le_add_right _ _) hB.1) (Nat.le_trans (Nat.le_add_right _ _) hB.2) (lw_ret (d0 := s.drawn) (Drawn.sameBut.refl s.drawn lw_cs) hx hb hr hlk dL_law_2568))
  · have hf := (if_neg c1).mp hf
    refine lv_aload_n hx hb dL_law_37 rfl (lv_at hl 0 rfl) ?_
    refine lv_iload hx hb dL_law_38 (lv_at hl 5 rfl) ?_
    refine va_sld hx hb hX hbl hbA hH.2.2 hf.1 dL_law_40 ?_
    have hf := hf.2
    refine lv_bipush (v := 63) hx hb dL_law_41 (by decide) ?_
    refine lv_iand hx hb dL_law_43 ?_
    by_cases c2 : ((xs (l5).toNatClampNeg) &&& 63) = 0
    · have hf := (if_pos c2).mp hf
      refine lv_tableIn (off := 200) (tgt := 244) hx hb dL_law_44 (by rw [c2]; decide) (by rw [c2]; decide) (by rw [c2]; rfl) (by decide) ?_
      exact hJ244 S bc bs l1 l2 l3 l4 l5 hf H locs ls cells slots hH hl hB
    · have hf := (if_neg c2).mp hf
      by_cases c3 : ((xs (l5).toNatClampNeg) &&& 63) = 1
      · have hf := (if_pos c3).mp hf
        refine lv_tableIn (off := 244) (tgt := 288) hx hb dL_law_44 (by rw [c3]; decide) (by rw [c3]; decide) (by rw [c3]; rfl) (by decide) ?_
        exact hJ288 S bc bs l1 l2 l3 l4 l5 hf H locs ls cells slots hH hl hB
      · have hf := (if_neg c3).mp hf
        by_cases c4 : ((xs (l5).toNatClampNeg) &&& 63) = 2
        · have hf := (if_pos c4).mp hf
          refine lv_tableIn (off := 300) (tgt := 344) hx hb dL_law_44 (by rw [c4]; decide) (by rw [c4]; decide) (by rw [c4]; rfl) (by decide) ?_
          exact hJ344 S bc bs l1 l2 l3 l4 l5 hf H locs ls cells slots hH hl hB
        · have hf := (if_neg c4).mp hf
          by_cases c5 : ((xs (l5).toNatClampNeg) &&& 63) = 3
          · have hf := (if_pos c5).mp hf
            refine lv_tableIn (off := 380) (tgt := 424) hx hb dL_law_44 (by rw [c5]; decide) (by rw [c5]; decide) (by rw [c5]; rfl) (by decide) ?_
            exact hJ424 S bc bs l1 l2 l3 l4 l5 hf H locs ls cells slots hH hl hB
          · have hf := (if_neg c5).mp hf
            by_cases c6 : ((xs (l5).toNatClampNeg) &&& 63) = 4
            · have hf := (if_pos c6).mp hf
              refine lv_tableIn (off := 448) (tgt := 492) hx hb dL_law_44 (by rw [c6]; decide) (by rw [c6]; decide) (by rw [c6]; rfl) (by decide) ?_
              exact hJ492 S bc bs l1 l2 l3 l4 l5 hf H locs ls cells slots hH hl hB
            · have hf := (if_neg c6).mp hf
              by_cases c7 : ((xs (l5).toNatClampNeg) &&& 63) = 5
              · have hf := (if_pos c7).mp hf
                refine lv_tableIn (off := 516) (tgt := 560) hx hb dL_law_44 (by rw [c7]; decide) (by rw [c7]; decide) (by rw [c7]; rfl) (by decide) ?_
                exact hJ560 S bc bs l1 l2 l3 l4 l5 hf H locs ls cells slots hH hl hB
              · have hf := (if_neg c7).mp hf
                by_cases c8 : ((xs (l5).toNatClampNeg) &&& 63) = 6
                · have hf := (if_pos c8).mp hf
                  refine lv_tableIn (off := 584) (tgt := 628) hx hb dL_law_44 (by rw [c8]; decide) (by rw [c8]; decide) (by rw [c8]; rfl) (by decide) ?_
                  exact hJ628 S bc bs l1 l2 l3 l4 l5 hf H locs ls cells slots hH hl hB
                · have hf := (if_neg c8).mp hf
                  by_cases c9 : ((xs (l5).toNatClampNeg) &&& 63) = 7
                  · have hf := (if_pos c9).mp hf
                    refine lv_tableIn (off := 628) (tgt := 672) hx hb dL_law_44 (by rw [c9]; decide) (by rw [c9]; decide) (by rw [c9]; rfl) (by decide) ?_
                    exact hJ672 S bc bs l1 l2 l3 l4 l5 hf H locs ls cells slots hH hl hB
                  · have hf := (if_neg c9).mp hf
                    by_cases c10 : ((xs (l5).toNatClampNeg) &&& 63) = 8
                    · have hf := (if_pos c10).mp hf
                      refine lv_tableIn (off := 696) (tgt := 740) hx hb dL_law_44 (by rw [c10]; decide) (by rw [c10]; decide) (by rw [c10]; rfl) (by decide) ?_
                      exact hJ740 S bc bs l1 l2 l3 l4 l5 hf H locs ls cells slots hH hl hB
                    · have hf := (if_neg c10).mp hf
                      by_cases c11 : ((xs (l5).toNatClampNeg) &&& 63) = 9
                      · have hf := (if_pos c11).mp hf
                        refine lv_tableIn (off := 764) (tgt := 808) hx hb dL_law_44 (by rw [c11]; decide) (by rw [c11]; decide) (by rw [c11]; rfl) (by decide) ?_
                        exact hJ808 S bc bs l1 l2 l3 l4 l5 hf H locs ls cells slots hH hl hB
                      · have hf := (if_neg c11).mp hf
                        by_cases c12 : ((xs (l5).toNatClampNeg) &&& 63) = 10
                        · have hf := (if_pos c12).mp hf
                          refine lv_tableIn (off := 832) (tgt := 876) hx hb dL_law_44 (by rw [c12]; decide) (by rw [c12]; decide) (by rw [c12]; rfl) (by decide) ?_
                          exact hJ876 S bc bs l1 l2 l3 l4 l5 hf H locs ls cells slots hH hl hB
                        · have hf := (if_neg c12).mp hf
                          by_cases c13 : ((xs (l5).toNatClampNeg) &&& 63) = 11
                          · have hf := (if_pos c13).mp hf
                            refine lv_tableIn (off := 845) (tgt := 889) hx hb dL_law_44 (by rw [c13]; decide) (by rw [c13]; decide) (by rw [c13]; rfl) (by decide) ?_
                            exact hJ889 S bc bs l1 l2 l3 l4 l5 hf H locs ls cells slots hH hl hB
                          · have hf := (if_neg c13).mp hf
                            by_cases c14 : ((xs (l5).toNatClampNeg) &&& 63) = 12
                            · have hf := (if_pos c14).mp hf
                              refine lv_tableIn (off := 858) (tgt := 902) hx hb dL_law_44 (by rw [c14]; decide) (by rw [c14]; decide) (by rw [c14]; rfl) (by decide) ?_
                              exact hJ902 S bc bs l1 l2 l3 l4 l5 hf H locs ls cells slots hH hl hB
                            · have hf := (if_neg c14).mp hf
                              by_cases c15 : ((xs (l5).toNatClampNeg) &&& 63) = 13
                              · have hf := (if_pos c15).mp hf
                                refine lv_tableIn (off := 871) (tgt := 915) hx hb dL_law_44 (by rw [c15]; decide) (by rw [c15]; decide) (by rw [c15]; rfl) (by decide) ?_
                                exact hJ915 S bc bs l1 l2 l3 l4 l5 hf H locs ls cells slots hH hl hB
                              · have hf := (if_neg c15).mp hf
                                by_cases c16 : ((xs (l5).toNatClampNeg) &&& 63) = 14
                                · have hf := (if_pos c16).mp hf
                                  refine lv_tableIn (off := 939) (tgt := 983) hx hb dL_law_44 (by rw [c16]; decide) (by rw [c16]; decide) (by rw [c16]; rfl) (by decide) ?_
                                  exact hJ983 S bc bs l1 l2 l3 l4 l5 hf H locs ls cells slots hH hl hB
                                · have hf := (if_neg c16).mp hf
                                  by_cases c17 : ((xs (l5).toNatClampNeg) &&& 63) = 15
                                  · have hf := (if_pos c17).mp hf
                                    refine lv_tableIn (off := 1007) (tgt := 1051) hx hb dL_law_44 (by rw [c17]; decide) (by rw [c17]; decide) (by rw [c17]; rfl) (by decide) ?_
                                    exact hJ1051 S bc bs l1 l2 l3 l4 l5 hf H locs ls cells slots hH hl hB
                                  · have hf := (if_neg c17).mp hf
                                    by_cases c18 : ((xs (l5).toNatClampNeg) &&& 63) = 16
                                    · have hf := (if_pos c18).mp hf
                                      refine lv_tableIn (off := 1075) (tgt := 1119) hx hb dL_law_44 (by rw [c18]; decide) (by rw [c18]; decide) (by rw [c18]; rfl) (by decide) ?_
                                      exact hJ1119 S bc bs l1 l2 l3 l4 l5 hf H locs ls cells slots hH hl hB
                                    · have hf := (if_neg c18).mp hf
                                      by_cases c19 : ((xs (l5).toNatClampNeg) &&& 63) = 17
                                      · have hf := (if_pos c19).mp hf
                                        refine lv_tableIn (off := 1119) (tgt := 1163) hx hb dL_law_44 (by rw [c19]; decide) (by rw [c19]; decide) (by rw [c19]; rfl) (by decide) ?_
                                        exact hJ1163 S bc bs l1 l2 l3 l4 l5 hf H locs ls cells slots hH hl hB
                                      · have hf := (if_neg c19).mp hf
                                        by_cases c20 : ((xs (l5).toNatClampNeg) &&& 63) = 18
                                        · have hf := (if_pos c20).mp hf
                                          refine lv_tableIn (off := 1163) (tgt := 1207) hx hb dL_law_44 (by rw [c20]; decide) (by rw [c20]; decide) (by rw [c20]; rfl) (by decide) ?_
                                          exact hJ1207 S bc bs l1 l2 l3 l4 l5 hf H locs ls cells slots hH hl hB
                                        · have hf := (if_neg c20).mp hf
                                          by_cases c21 : ((xs (l5).toNatClampNeg) &&& 63) = 19
                                          · have hf := (if_pos c21).mp hf
                                            refine lv_tableIn (off := 1207) (tgt := 1251) hx hb dL_law_44 (by rw [c21]; decide) (by rw [c21]; decide) (by rw [c21]; rfl) (by decide) ?_
                                            exact hJ1251 S bc bs l1 l2 l3 l4 l5 hf H locs ls cells slots hH hl hB
                                          · have hf := (if_neg c21).mp hf
                                            by_cases c22 : ((xs (l5).toNatClampNeg) &&& 63) = 20
                                            · have hf := (if_pos c22).mp hf
                                              refine lv_tableIn (off := 1251) (tgt := 1295) hx hb dL_law_44 (by rw [c22]; decide) (by rw [c22]; decide) (by rw [c22]; rfl) (by decide) ?_
                                              exact hJ1295 S bc bs l1 l2 l3 l4 l5 hf H locs ls cells slots hH hl hB
                                            · have hf := (if_neg c22).mp hf
                                              by_cases c23 : ((xs (l5).toNatClampNeg) &&& 63) = 21
                                              · have hf := (if_pos c23).mp hf
                                                refine lv_tableIn (off := 1319) (tgt := 1363) hx hb dL_law_44 (by rw [c23]; decide) (by rw [c23]; decide) (by rw [c23]; rfl) (by decide) ?_
                                                exact hJ1363 S bc bs l1 l2 l3 l4 l5 hf H locs ls cells slots hH hl hB
                                              · have hf := (if_neg c23).mp hf
                                                by_cases c24 : ((xs (l5).toNatClampNeg) &&& 63) = 22
                                                · have hf := (if_pos c24).mp hf
                                                  refine lv_tableIn (off := 1387) (tgt := 1431) hx hb dL_law_44 (by rw [c24]; decide) (by rw [c24]; decide) (by rw [c24]; rfl) (by decide) ?_
                                                  exact hJ1431 S bc bs l1 l2 l3 l4 l5 hf H locs ls cells slots hH hl hB
                                                · have hf := (if_neg c24).mp hf
                                                  by_cases c25 : ((xs (l5).toNatClampNeg) &&& 63) = 23
                                                  · have hf := (if_pos c25).mp hf
                                                    refine lv_tableIn (off := 1431) (tgt := 1475) hx hb dL_law_44 (by rw [c25]; decide) (by rw [c25]; decide) (by rw [c25]; rfl) (by decide) ?_
                                                    exact hJ1475 S bc bs l1 l2 l3 l4 l5 hf H locs ls cells slots hH hl hB
                                                  · have hf := (if_neg c25).mp hf
                                                    by_cases c26 : ((xs (l5).toNatClampNeg) &&& 63) = 24
                                                    · have hf := (if_pos c26).mp hf
                                                      refine lv_tableIn (off := 1487) (tgt := 1531) hx hb dL_law_44 (by rw [c26]; decide) (by rw [c26]; decide) (by rw [c26]; rfl) (by decide) ?_
                                                      exact hJ1531 S bc bs l1 l2 l3 l4 l5 hf H locs ls cells slots hH hl hB
                                                    · have hf := (if_neg c26).mp hf
                                                      by_cases c27 : ((xs (l5).toNatClampNeg) &&& 63) = 25
                                                      · have hf := (if_pos c27).mp hf
                                                        refine lv_tableIn (off := 1567) (tgt := 1611) hx hb dL_law_44 (by rw [c27]; decide) (by rw [c27]; decide) (by rw [c27]; rfl) (by decide) ?_
                                                        exact hJ1611 S bc bs l1 l2 l3 l4 l5 hf H locs ls cells slots hH hl hB
                                                      · have hf := (if_neg c27).mp hf
                                                        by_cases c28 : ((xs (l5).toNatClampNeg) &&& 63) = 26
                                                        · have hf := (if_pos c28).mp hf
                                                          refine lv_tableIn (off := 1642) (tgt := 1686) hx hb dL_law_44 (by rw [c28]; decide) (by rw [c28]; decide) (by rw [c28]; rfl) (by decide) ?_
                                                          exact hJ1686 S bc bs l1 l2 l3 l4 l5 hf H locs ls cells slots hH hl hB
                                                        · have hf := (if_neg c28).mp hf
                                                          by_cases c29 : ((xs (l5).toNatClampNeg) &&& 63) = 27
                                                          · have hf := (if_pos c29).mp hf
                                                            refine lv_tableIn (off := 1655) (tgt := 1699) hx hb dL_law_44 (by rw [c29]; decide) (by rw [c29]; decide) (by rw [c29]; rfl) (by decide) ?_
                                                            exact hJ1699 S bc bs l1 l2 l3 l4 l5 hf H locs ls cells slots hH hl hB
                                                          · have hf := (if_neg c29).mp hf
                                                            by_cases c30 : ((xs (l5).toNatClampNeg) &&& 63) = 28
                                                            · have hf := (if_pos c30).mp hf
                                                              refine lv_tableIn (off := 1711) (tgt := 1755) hx hb dL_law_44 (by rw [c30]; decide) (by rw [c30]; decide) (by rw [c30]; rfl) (by decide) ?_
                                                              exact hJ1755 S bc bs l1 l2 l3 l4 l5 hf H locs ls cells slots hH hl hB
                                                            · have hf := (if_neg c30).mp hf
                                                              by_cases c31 : ((xs (l5).toNatClampNeg) &&& 63) = 29
                                                              · have hf := (if_pos c31).mp hf
                                                                refine lv_tableIn (off := 1767) (tgt := 1811) hx hb dL_law_44 (by rw [c31]; decide) (by rw [c31]; decide) (by rw [c31]; rfl) (by decide) ?_
                                                                exact hJ1811 S bc bs l1 l2 l3 l4 l5 hf H locs ls cells slots hH hl hB
                                                              · have hf := (if_neg c31).mp hf
                                                                by_cases c32 : ((xs (l5).toNatClampNeg) &&& 63) = 30
                                                                · have hf := (if_pos c32).mp hf
                                                                  refine lv_tableIn (off := 1811) (tgt := 1855) hx hb dL_law_44 (by rw [c32]; decide) (by rw [c32]; decide) (by rw [c32]; rfl) (by decide) ?_
                                                                  exact hJ1855 S bc bs l1 l2 l3 l4 l5 hf H locs ls cells slots hH hl hB
                                                                · have hf := (if_neg c32).mp hf
                                                                  by_cases c33 : ((xs (l5).toNatClampNeg) &&& 63) = 31
                                                                  · have hf := (if_pos c33).mp hf
                                                                    refine lv_tableIn (off := 1879) (tgt := 1923) hx hb dL_law_44 (by rw [c33]; decide) (by rw [c33]; decide) (by rw [c33]; rfl) (by decide) ?_
                                                                    exact hJ1923 S bc bs l1 l2 l3 l4 l5 hf H locs ls cells slots hH hl hB
                                                                  · have hf := (if_neg c33).mp hf
                                                                    by_cases c34 : ((xs (l5).toNatClampNeg) &&& 63) = 32
                                                                    · have hf := (if_pos c34).mp hf
                                                                      refine lv_tableIn (off := 1892) (tgt := 1936) hx hb dL_law_44 (by rw [c34]; decide) (by rw [c34]; decide) (by rw [c34]; rfl) (by decide) ?_
                                                                      exact hJ1936 S bc bs l1 l2 l3 l4 l5 hf H locs ls cells slots hH hl hB
                                                                    · have hf := (if_neg c34).mp hf
                                                                      by_cases c35 : ((xs (l5).toNatClampNeg) &&& 63) = 33
                                                                      · have hf := (if_pos c35).mp hf
                                                                        refine lv_tableIn (off := 1950) (tgt := 1994) hx hb dL_law_44 (by rw [c35]; decide) (by rw [c35]; decide) (by rw [c35]; rfl) (by decide) ?_
                                                                        exact hJ1994 S bc bs l1 l2 l3 l4 l5 hf H locs ls cells slots hH hl hB
                                                                      · have hf := (if_neg c35).mp hf
                                                                        by_cases c36 : ((xs (l5).toNatClampNeg) &&& 63) = 34
                                                                        · have hf := (if_pos c36).mp hf
                                                                          refine lv_tableIn (off := 1994) (tgt := 2038) hx hb dL_law_44 (by rw [c36]; decide) (by rw [c36]; decide) (by rw [c36]; rfl) (by decide) ?_
                                                                          exact hJ2038 S bc bs l1 l2 l3 l4 l5 hf H locs ls cells slots hH hl hB
                                                                        · have hf := (if_neg c36).mp hf
                                                                          by_cases c37 : ((xs (l5).toNatClampNeg) &&& 63) = 35
                                                                          · have hf := (if_pos c37).mp hf
                                                                            refine lv_tableIn (off := 2007) (tgt := 2051) hx hb dL_law_44 (by rw [c37]; decide) (by rw [c37]; decide) (by rw [c37]; rfl) (by decide) ?_
                                                                            exact hJ2051 S bc bs l1 l2 l3 l4 l5 hf H locs ls cells slots hH hl hB
                                                                          · have hf := (if_neg c37).mp hf
                                                                            by_cases c38 : ((xs (l5).toNatClampNeg) &&& 63) = 36
                                                                            · have hf := (if_pos c38).mp hf
                                                                              refine lv_tableIn (off := 2091) (tgt := 2135) hx hb dL_law_44 (by rw [c38]; decide) (by rw [c38]; decide) (by rw [c38]; rfl) (by decide) ?_
                                                                              exact hJ2135 S bc bs l1 l2 l3 l4 l5 hf H locs ls cells slots hH hl hB
                                                                            · have hf := (if_neg c38).mp hf
                                                                              by_cases c39 : ((xs (l5).toNatClampNeg) &&& 63) = 37
                                                                              · have hf := (if_pos c39).mp hf
                                                                                refine lv_tableIn (off := 2104) (tgt := 2148) hx hb dL_law_44 (by rw [c39]; decide) (by rw [c39]; decide) (by rw [c39]; rfl) (by decide) ?_
                                                                                exact hJ2148 S bc bs l1 l2 l3 l4 l5 hf H locs ls cells slots hH hl hB
                                                                              · have hf := (if_neg c39).mp hf
                                                                                by_cases c40 : ((xs (l5).toNatClampNeg) &&& 63) = 38
                                                                                · have hf := (if_pos c40).mp hf
                                                                                  refine lv_tableIn (off := 2160) (tgt := 2204) hx hb dL_law_44 (by rw [c40]; decide) (by rw [c40]; decide) (by rw [c40]; rfl) (by decide) ?_
                                                                                  exact hJ2204 S bc bs l1 l2 l3 l4 l5 hf H locs ls cells slots hH hl hB
                                                                                · have hf := (if_neg c40).mp hf
                                                                                  by_cases c41 : ((xs (l5).toNatClampNeg) &&& 63) = 39
                                                                                  · have hf := (if_pos c41).mp hf
                                                                                    refine lv_tableIn (off := 2173) (tgt := 2217) hx hb dL_law_44 (by rw [c41]; decide) (by rw [c41]; decide) (by rw [c41]; rfl) (by decide) ?_
                                                                                    exact hJ2217 S bc bs l1 l2 l3 l4 l5 hf H locs ls cells slots hH hl hB
                                                                                  · have hf := (if_neg c41).mp hf
                                                                                    by_cases c42 : ((xs (l5).toNatClampNeg) &&& 63) = 40
                                                                                    · have hf := (if_pos c42).mp hf
                                                                                      refine lv_tableIn (off := 2229) (tgt := 2273) hx hb dL_law_44 (by rw [c42]; decide) (by rw [c42]; decide) (by rw [c42]; rfl) (by decide) ?_
                                                                                      exact hJ2273 S bc bs l1 l2 l3 l4 l5 hf H locs ls cells slots hH hl hB
                                                                                    · have hf := (if_neg c42).mp hf
                                                                                      by_cases c43 : ((xs (l5).toNatClampNeg) &&& 63) = 41
                                                                                      · have hf := (if_pos c43).mp hf
                                                                                        refine lv_tableIn (off := 2285) (tgt := 2329) hx hb dL_law_44 (by rw [c43]; decide) (by rw [c43]; decide) (by rw [c43]; rfl) (by decide) ?_
                                                                                        exact hJ2329 S bc bs l1 l2 l3 l4 l5 hf H locs ls cells slots hH hl hB
                                                                                      · have hf := (if_neg c43).mp hf
                                                                                        by_cases c44 : ((xs (l5).toNatClampNeg) &&& 63) = 42
                                                                                        · have hf := (if_pos c44).mp hf
                                                                                          refine lv_tableIn (off := 2350) (tgt := 2394) hx hb dL_law_44 (by rw [c44]; decide) (by rw [c44]; decide) (by rw [c44]; rfl) (by decide) ?_
                                                                                          exact hJ2394 S bc bs l1 l2 l3 l4 l5 hf H locs ls cells slots hH hl hB
                                                                                        · have hf := (if_neg c44).mp hf
                                                                                          by_cases c45 : ((xs (l5).toNatClampNeg) &&& 63) = 43
                                                                                          · have hf := (if_pos c45).mp hf
                                                                                            refine lv_tableIn (off := 2416) (tgt := 2460) hx hb dL_law_44 (by rw [c45]; decide) (by rw [c45]; decide) (by rw [c45]; rfl) (by decide) ?_
                                                                                            exact hJ2460 S bc bs l1 l2 l3 l4 l5 hf H locs ls cells slots hH hl hB
                                                                                          · have hf := (if_neg c45).mp hf
                                                                                            by_cases c46 : ((xs (l5).toNatClampNeg) &&& 63) = 44
                                                                                            · have hf := (if_pos c46).mp hf
                                                                                              refine lv_tableIn (off := 2460) (tgt := 2504) hx hb dL_law_44 (by rw [c46]; decide) (by rw [c46]; decide) (by rw [c46]; rfl) (by decide) ?_
                                                                                              exact hJ2504 S bc bs l1 l2 l3 l4 l5 hf H locs ls cells slots hH hl hB
                                                                                            · have hf := (if_neg c46).mp hf
                                                                                              by_cases c47 : ((xs (l5).toNatClampNeg) &&& 63) = 45
                                                                                              · have hf := (if_pos c47).mp hf
                                                                                                refine lv_tableIn (off := 2473) (tgt := 2517) hx hb dL_law_44 (by rw [c47]; decide) (by rw [c47]; decide) (by rw [c47]; rfl) (by decide) ?_
                                                                                                exact hJ2517 S bc bs l1 l2 l3 l4 l5 hf H locs ls cells slots hH hl hB
                                                                                              · have hf := (if_neg c47).mp hf
                                                                                                refine lv_tableOut (tgt := 2561) hx hb dL_law_44 (by have z0 := lv_neT c2 (a := 0) rfl; have z1 := lv_neT c3 (a := 1) rfl; have z2 := lv_neT c4 (a := 2) rfl; have z3 := lv_neT c5 (a := 3) rfl; have z4 := lv_neT c6 (a := 4) rfl; have z5 := lv_neT c7 (a := 5) rfl; have z6 := lv_neT c8 (a := 6) rfl; have z7 := lv_neT c9 (a := 7) rfl; have z8 := lv_neT c10 (a := 8) rfl; have z9 := lv_neT c11 (a := 9) rfl; have z10 := lv_neT c12 (a := 10) rfl; have z11 := lv_neT c13 (a := 11) rfl; have z12 := lv_neT c14 (a := 12) rfl; have z13 := lv_neT c15 (a := 13) rfl; have z14 := lv_neT c16 (a := 14) rfl; have z15 := lv_neT c17 (a := 15) rfl; have z16 := lv_neT c18 (a := 16) rfl; have z17 := lv_neT c19 (a := 17) rfl; have z18 := lv_neT c20 (a := 18) rfl; have z19 := lv_neT c21 (a := 19) rfl; have z20 := lv_neT c22 (a := 20) rfl; have z21 := lv_neT c23 (a := 21) rfl; have z22 := lv_neT c24 (a := 22) rfl; have z23 := lv_neT c25 (a := 23) rfl; have z24 := lv_neT c26 (a := 24) rfl; have z25 := lv_neT c27 (a := 25) rfl; have z26 := lv_neT c28 (a := 26) rfl; have z27 := lv_neT c29 (a := 27) rfl; have z28 := lv_neT c30 (a := 28) rfl; have z29 := lv_neT c31 (a := 29) rfl; have z30 := lv_neT c32 (a := 30) rfl; have z31 := lv_neT c33 (a := 31) rfl; have z32 := lv_neT c34 (a := 32) rfl; have z33 := lv_neT c35 (a := 33) rfl; have z34 := lv_neT c36 (a := 34) rfl; have z35 := lv_neT c37 (a := 35) rfl; have z36 := lv_neT c38 (a := 36) rfl; have z37 := lv_neT c39 (a := 37) rfl; have z38 := lv_neT c40 (a := 38) rfl; have z39 := lv_neT c41 (a := 39) rfl; have z40 := lv_neT c42 (a := 40) rfl; have z41 := lv_neT c43 (a := 41) rfl; have z42 := lv_neT c44 (a := 42) rfl; have z43 := lv_neT c45 (a := 43) rfl; have z44 := lv_neT c46 (a := 44) rfl; have z45 := lv_neT c47 (a := 45) rfl; omega) (by decide) ?_
                                                                                                exact hJ2561 S bc bs l1 l2 l3 l4 l5 hf H locs ls cells slots hH hl hB
set_option maxHeartbeats 4000000 in
set_option maxRecDepth 100000 in
theorem c_L_law {p : Program} {e : Env} {s : State} {m : MethodId} {below : List Frame} {meth : Method} {c : Code} (l : Launch) (D : va_G) (cy : Nat → ClassId) (G : p_GT) (hGC : ∀ (A : Nat → Prop) (U : State) (H : Heap), G A U H → gC A U H) (hst : l.stackTraces = false) (hGE : ∀ (A : Nat → Prop) (U : State) (H : Heap), G A U H → p_Ex A U H) (hGF : ∀ (A : Nat → Prop) (U : State) (H : Heap), G A U H → gF A U H) (adK adV : Nat → Nat) (hGK : ∀ (A : Nat → Prop) (U : State) (H : Heap), G A U H → gK adK adV A U H) (hGN : ∀ (A : Nat → Prop) (U : State) (H : Heap), G A U H → gN A U H) (hGO : ∀ (A : Nat → Prop) (U : State) (H : Heap), G A U H → va_AO "VillageFeud$Village" U) (dT dO : Nat) (hGT : ∀ (A : Nat → Prop) (U : State) (H : Heap), G A U H → gT dT dO A U H) (hGU : ∀ (A : Nat → Prop) (U : State) (H : Heap), G A U H → gU A U H) (A : Nat → Prop) (b L : Nat) (xs : Nat → Int32) (X : p_X p m c cL_law 9 s #[.ref b] RL D cy G A) (hr : meth.sig.returnType = ret) (hlk : meth.locks = false) (hX : va_X b L xs s s.heap) (hbl : b < s.heap.size) (hbA : ¬ A b) (hfree : ∀ q, A q → s.heap.size ≤ q) (S : PS) (bc bs : Nat) (hf : f_L_law adK L xs S bc bs) (ls : Array Slot) (hH : p_H D cy S A s s.heap []) (hl : lv_has ls 9 [(0, .ref b)]) (hB : 0 + bc ≤ room_1.cells ∧ 0 + bs ≤ room_1.slots) : W p l e room_1 s m #[Value.ref b] below meth c s.heap [] 0 0 (lw_Z below #[Value.ref b] s) (F0 m 0 ls []) := by
  have hx := X.1.1
  have hb := X.1.2.1
  obtain ⟨H, hHe⟩ : ∃ H, H = s.heap := ⟨_, rfl⟩
  obtain ⟨locs, hlo⟩ : ∃ locs : List Loc, locs = [] := ⟨_, rfl⟩
  obtain ⟨cells, hce⟩ : ∃ n : Nat, n = 0 := ⟨_, rfl⟩
  obtain ⟨slots, hsl⟩ : ∃ n : Nat, n = 0 := ⟨_, rfl⟩
  rw [← hHe, ← hlo] at hH
  rw [← hHe, ← hlo]
  have hB : cells + bc ≤ room_1.cells ∧ slots + bs ≤ room_1.slots := by rw [hce, hsl]; exact hB
  have main : W p l e room_1 s m #[Value.ref b] below meth c H locs cells slots (lw_Z below #[Value.ref b] s) (F0 m 0 ls []) := by
    clear hHe hlo hce hsl
    have hL28 := jL_law_28 (e := e) (below := below) l D cy G hGC hst hGE hGF adK adV hGK hGN hGO dT dO hGT hGU A b L xs X hr hlk hX hbl hbA hfree
    refine q_new (T := TX7) (N := 12) X hH hB hf iw_X7 tyX7 tyX7_ok rfl tw_124 tw_125 tw_92 (fun j hj => by rcases (show j = 0 ∨ j = 1 ∨ j = 2 ∨ j = 3 ∨ j = 4 ∨ j = 5 ∨ j = 6 ∨ j = 7 ∨ j = 8 ∨ j = 9 ∨ j = 10 ∨ j = 11 by omega) with rfl | rfl | rfl | rfl | rfl | rfl | rfl | rfl | rfl | rfl | rfl | rfl <;> rfl) dL_law_0 (fun q1 S2 bc3 bs4 hf H locs cells slots hH hB => ?_)
    refine lv_dup hx hb dL_law_3 rfl ?_
    obtain ⟨mc6, ms6, hm1, hs1, hf⟩ := hf
    refine q_backVB X hH hB hm1 hs1 (q_runI [] [.ref q1] X hH hl (c_X7_init l D cy G X.2.2.2.1 hGC hGO S2 q1 mc6 ms6 _ _ hf) mf_X7_init tw_127 tw_126 ⟨Nat.le_of_ble_eq_true rfl, Nat.le_of_ble_eq_true rfl⟩ rfl (Nat.le_of_ble_eq_true rfl) dL_law_4 ⟨Nat.le_trans (Nat.add_le_add_left hm1 _) hB.1, Nat.le_trans (Nat.add_le_add_left hs1 _) hB.2⟩) (fun S5 hf H locs cells slots hH hB => ?_)
    refine lv_astore_n (lv' := [(1, .ref q1), (0, .ref b)]) hx hb dL_law_7 rfl hl (by decide) rfl (fun ls hl => ?_)
    refine q_new (T := TX8) (N := 25) X hH hB hf iw_X8 tyX8 tyX8_ok rfl tw_1603 tw_1604 tw_104 (fun j hj => by rcases (show j = 0 ∨ j = 1 ∨ j = 2 ∨ j = 3 ∨ j = 4 ∨ j = 5 ∨ j = 6 ∨ j = 7 ∨ j = 8 ∨ j = 9 ∨ j = 10 ∨ j = 11 ∨ j = 12 ∨ j = 13 ∨ j = 14 ∨ j = 15 ∨ j = 16 ∨ j = 17 ∨ j = 18 ∨ j = 19 ∨ j = 20 ∨ j = 21 ∨ j = 22 ∨ j = 23 ∨ j = 24 by omega) with rfl | rfl | rfl | rfl | rfl | rfl | rfl | rfl | rfl | rfl | rfl | rfl | rfl | rfl | rfl | rfl | rfl | rfl | rfl | rfl | rfl | rfl | rfl | rfl | rfl <;> rfl) dL_law_8 (fun q8 S9 bc10 bs11 hf H locs cells slots hH hB => ?_)
    refine lv_dup hx hb dL_law_11 rfl ?_
    obtain ⟨mc13, ms13, hm1, hs1, hf⟩ := hf
    refine q_backVB X hH hB hm1 hs1 (q_runI [] [.ref q8] X hH hl (c_X8_init l D cy G X.2.2.2.1 S9 q8 mc13 ms13 _ _ hf) mf_X8_init tw_1606 tw_1605 ⟨Nat.le_of_ble_eq_true rfl, Nat.le_of_ble_eq_true rfl⟩ rfl (Nat.le_of_ble_eq_true rfl) dL_law_12 ⟨Nat.le_trans (Nat.add_le_add_left hm1 _) hB.1, Nat.le_trans (Nat.add_le_add_left hs1 _) hB.2⟩) (fun S12 hf H locs cells slots hH hB => ?_)
    refine lv_astore_n (lv' := [(2, .ref q8), (1, .ref q1), (0, .ref b)]) hx hb dL_law_15 rfl hl (by decide) rfl (fun ls hl => ?_)
    refine lv_iconst (v := 1) hx hb dL_law_16 (by decide) ?_
    refine q_newL X hH hB hf tw_2100 dL_law_17 (fun q15 S16 bc17 bs18 hf H locs cells slots hH hB => ?_)
    refine lv_astore_n (lv' := [(3, .ref q15), (2, .ref q8), (1, .ref q1), (0, .ref b)]) hx hb dL_law_19 rfl hl (by decide) rfl (fun ls hl => ?_)
    refine lv_iconst (v := 1) hx hb dL_law_20 (by decide) ?_
    refine q_newD X hH hB hf tw_2101 dL_law_21 (fun q19 S20 bc21 bs22 hf H locs cells slots hH hB => ?_)
    refine lv_astore (lv' := [(4, .ref q19), (3, .ref q15), (2, .ref q8), (1, .ref q1), (0, .ref b)]) hx hb dL_law_23 hl (by decide) rfl (fun ls hl => ?_)
    refine lv_iconst (v := 0) hx hb dL_law_25 (by decide) ?_
    refine lv_istore (lv' := [(5, .int 0), (4, .ref q19), (3, .ref q15), (2, .ref q8), (1, .ref q1), (0, .ref b)]) hx hb dL_law_26 hl (by decide) rfl (fun ls hl => ?_)
    exact hL28 4096 S20 bc21 bs22 q1 q8 q15 q19 0 hf H locs ls cells slots hH (lv_sub hl [5, 4, 3, 2, 1, 0] rfl) hB
  rw [hce, hsl] at main
  exact main
