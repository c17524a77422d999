set_option maxHeartbeats 4000000 in
set_option maxRecDepth 100000 in
theorem jL_law_983 {p : Program} {e : Env} {s : State} {m : MethodId} {below : List Frame} {meth : Method} {c : Code} (l : Launch) (D : va_G) (cy : Nat → ClassId) (G : p_GT) (hGC : ∀ (A : Nat → Prop) (U : State) (H : Heap), G A U H → gC A U H) (hst : l.stackTraces = false) (hGE : ∀ (A : Nat → Prop) (U : State) (H : Heap), G A U H → p_Ex A U H) (hGF : ∀ (A : Nat → Prop) (U : State) (H : Heap), G A U H → gF A U H) (adK adV : Nat → Nat) (hGK : ∀ (A : Nat → Prop) (U : State) (H : Heap), G A U H → gK adK adV A U H) (hGN : ∀ (A : Nat → Prop) (U : State) (H : Heap), G A U H → gN A U H) (hGO : ∀ (A : Nat → Prop) (U : State) (H : Heap), G A U H → va_AO "VillageFeud$Village" U) (dT dO : Nat) (hGT : ∀ (A : Nat → Prop) (U : State) (H : Heap), G A U H → gT dT dO A U H) (hGU : ∀ (A : Nat → Prop) (U : State) (H : Heap), G A U H → gU A U H) (A : Nat → Prop) (b L : Nat) (xs : Nat → Int32) (X : p_X p m c cL_law 9 s #[.ref b] RL D cy G A) (hr : meth.sig.returnType = ret) (hlk : meth.locks = false) (hX : va_X b L xs s s.heap) (hbl : b < s.heap.size) (hbA : ¬ A b) (hfree : ∀ q, A q → s.heap.size ≤ q) (g28 : PS → Nat → Nat → Nat → Nat → Nat → Nat → Int32 → Prop) (ih28 : ∀ (S : PS) (bc bs : Nat) (l1 : Nat) (l2 : Nat) (l3 : Nat) (l4 : Nat) (l5 : Int32), g28 S bc bs l1 l2 l3 l4 l5 → ∀ (H : Heap) (locs : List Loc) (ls : Array Slot) (cells slots : Nat), p_H D cy S A s H locs → lv_has ls 9 [(0, .ref b), (1, .ref l1), (2, .ref l2), (3, .ref l3), (4, .ref l4), (5, .int l5)] → cells + bc ≤ room_1.cells ∧ slots + bs ≤ room_1.slots → W p l e room_1 s m #[Value.ref b] below meth c H locs cells slots (lw_Z below #[Value.ref b] s) (F0 m 28 ls [])) : ∀ (S : PS) (bc bs : Nat) (l1 : Nat) (l2 : Nat) (l3 : Nat) (l4 : Nat) (l5 : Int32), f_L_law_J983 adK L xs g28 S bc bs l1 l2 l3 l4 l5 → ∀ (H : Heap) (locs : List Loc) (ls : Array Slot) (cells slots : Nat), p_H D cy S A s H locs → lv_has ls 9 [(0, .ref b), (1, .ref l1), (2, .ref l2), (3, .ref l3), (4, .ref l4), (5, .int l5)] → cells + bc ≤ room_1.cells ∧ slots + bs ≤ room_1.slots → W p l e room_1 s m #[Value.ref b] below meth c H locs cells slots (lw_Z below #[Value.ref b] s) (F0 m 983 ls []) := by
  have hx := X.1.1
  have hb := X.1.2.1
  have hJ2561 := jL_law_2561 l D cy G hGC hst hGE hGF adK adV hGK hGN hGO dT dO hGT hGU A b L xs X hr hlk hX hbl hbA hfree g28 ih28
  intro S bc bs l1 l2 l3 l4 l5 hf H locs ls cells slots hH hl hB
  have hJ1048 : ∀ (S : PS) (bc bs : Nat) (l1 : Nat) (l2 : Nat) (l3 : Nat) (l4 : Nat) (l5 : Int32), f_L_law_J1048 adK L xs g28 S bc bs l1 l2 l3 l4 l5 → ∀ (H : Heap) (locs : List Loc) (ls : Array Slot) (cells slots : Nat), p_H D cy S A s H locs → lv_has ls 9 [(0, .ref b), (1, .ref l1), (2, .ref l2), (3, .ref l3), (4, .ref l4), (5, .int l5)] → cells + bc ≤ room_1.cells ∧ slots + bs ≤ room_1.slots → W p l e room_1 s m [.ref b].toArray below meth c H locs cells slots (lw_Z below #[Value.ref b] s) (F0 m 1048 ls []) := by
    intro S bc bs l1 l2 l3 l4 l5 hf H locs ls cells slots hH hl hB
    refine lv_goto (tgt := 2561) hx hb dL_law_1048 (by decide) ?_
    exact hJ2561 S bc bs l1 l2 l3 l4 l5 hf H locs ls cells slots hH hl hB
  refine lv_aload_n hx hb dL_law_983 rfl (lv_at hl 1 rfl) ?_
  refine lv_aload_n hx hb dL_law_984 rfl (lv_at hl 0 rfl) ?_
  refine lv_iload hx hb dL_law_985 (lv_at hl 5 rfl) ?_
  refine lv_iconst (v := 1) hx hb dL_law_987 (by decide) ?_
  refine lv_iadd hx hb dL_law_988 ?_
  refine va_sld hx hb hX hbl hbA hH.2.2 hf.1 dL_law_989 ?_
  have hf := hf.2
  refine lv_aload_n hx hb dL_law_990 rfl (lv_at hl 0 rfl) ?_
  refine lv_iload hx hb dL_law_991 (lv_at hl 5 rfl) ?_
  refine lv_iconst (v := 2) hx hb dL_law_993 (by decide) ?_
  refine lv_iadd hx hb dL_law_994 ?_
  refine va_sld hx hb hX hbl hbA hH.2.2 hf.1 dL_law_995 ?_
  have hf := hf.2
  refine lv_aload_n hx hb dL_law_996 rfl (lv_at hl 3 rfl) ?_
  obtain ⟨mc2, ms2, hm1, hs1, hf⟩ := hf
  refine q_callXi X hH hB hm1 hs1 (q_runSx [.ref l1, .int (xs (l5 + 1).toNatClampNeg), .int (xs (l5 + 2).toNatClampNeg), .ref l3] [] X hH hl (c_L_joined l D cy G X.2.2.2.1 hst hGE hGN S l1 (xs (l5 + 1).toNatClampNeg) (xs (l5 + 2).toNatClampNeg) l3 mc2 ms2 _ _ hf) mw_L_joined tw_1169 tw_1168 ⟨Nat.le_of_ble_eq_true rfl, Nat.le_of_ble_eq_true rfl⟩ rfl (Nat.le_of_ble_eq_true rfl) dL_law_997 ⟨Nat.le_trans (Nat.add_le_add_left hm1 _) hB.1, Nat.le_trans (Nat.add_le_add_left hs1 _) hB.2⟩) (fun _ _ _ _ hf _ _ _ _ _ _ _ _ _ => hf.elim) (fun v3 S1 hf H locs cells slots hH hB => ?_)
  refine lv_istore (lv' := [(6, .int v3), (0, .ref b), (1, .ref l1), (2, .ref l2), (3, .ref l3), (4, .ref l4), (5, .int l5)]) hx hb dL_law_1000 hl (by decide) rfl (fun ls hl => ?_)
  refine lv_aload_n hx hb dL_law_1002 rfl (lv_at hl 3 rfl) ?_
  refine lv_aload_n hx hb dL_law_1003 rfl (lv_at hl 1 rfl) ?_
  refine lv_iload hx hb dL_law_1004 (lv_at hl 6 rfl) ?_
  refine lv_iconst (v := 1) hx hb dL_law_1006 (by decide) ?_
  refine lv_iadd hx hb dL_law_1007 ?_
  refine va_sld hx hb hX hbl hbA hH.2.2 hf.1 dL_law_1008 ?_
  have hf := hf.2
  refine lv_aload_n hx hb dL_law_1009 rfl (lv_at hl 1 rfl) ?_
  refine lv_iload hx hb dL_law_1010 (lv_at hl 6 rfl) ?_
  refine lv_iconst (v := 2) hx hb dL_law_1012 (by decide) ?_
  refine lv_iadd hx hb dL_law_1013 ?_
  refine va_sld hx hb hX hbl hbA hH.2.2 hf.1 dL_law_1014 ?_
  have hf := hf.2
  obtain ⟨hb1, hb2, hf⟩ := hf
  refine q_backI0 X hH (q_runV [.int (xs (l5 + 1).toNatClampNeg), .int (xs (l5 + 2).toNatClampNeg)] [] X hH hl (c_X8_joined l D cy G X.2.2.2.1 S1 l2 (xs (l5 + 1).toNatClampNeg) (xs (l5 + 2).toNatClampNeg) _ _ hf) mf_X8_joined mv_X8_joined tw_1848 ⟨Nat.le_of_ble_eq_true rfl, Nat.le_of_ble_eq_true rfl⟩ hb1 hb2 (T := TX8) (N := 25) rfl rfl (Nat.le_of_ble_eq_true rfl) dL_law_1015 ⟨Nat.le_trans (Nat.le_add_right _ _) hB.1, Nat.le_trans (Nat.le_add_right _ _) hB.2⟩) (fun v5 S4 hf H locs hH => ?_)
  refine lv_istore (lv' := [(7, .int v5), (6, .int v3), (0, .ref b), (1, .ref l1), (2, .ref l2), (3, .ref l3), (4, .ref l4), (5, .int l5)]) hx hb dL_law_1018 hl (by decide) rfl (fun ls hl => ?_)
  refine lv_aload_n hx hb dL_law_1020 rfl (lv_at hl 4 rfl) ?_
  obtain ⟨hb1, hb2, hf⟩ := hf
  refine q_backI0 X hH (q_runV [] [] X hH hl (c_X8_thrown l D cy G X.2.2.2.1 S4 l2 _ _ hf) mf_X8_thrown mv_X8_thrown tw_1686 ⟨Nat.le_of_ble_eq_true rfl, Nat.le_of_ble_eq_true rfl⟩ hb1 hb2 (T := TX8) (N := 25) rfl rfl (Nat.le_of_ble_eq_true rfl) dL_law_1021 ⟨Nat.le_trans (Nat.le_add_right _ _) hB.1, Nat.le_trans (Nat.le_add_right _ _) hB.2⟩) (fun v7 S6 hf H locs hH => ?_)
  refine lv_iload hx hb dL_law_1024 (lv_at hl 1 rfl) ?_
  refine lv_icmp_eq (tgt := 1031) hx hb dL_law_1026 (by decide) (fun c8 => ?_) (fun c8 => ?_)
  · have hf := (if_pos c8).mp hf
    refine lv_iload hx hb dL_law_1031 (lv_at hl 1 rfl) ?_
    refine lv_if_ne (tgt := 1048) hx hb dL_law_1033 (by decide) (fun c9 => ?_) (fun c9 => ?_)
    · have hf := (if_neg c9).mp hf
      exact hJ1048 S6 (bc - mc2) (bs - ms2) l1 l2 l3 l4 l5 hf H locs ls cells slots hH (lv_sub hl [2, 3, 4, 5, 6, 7] rfl) hB
    · have hf := (if_pos c9).mp hf
      refine lv_aload_n hx hb dL_law_1036 rfl (lv_at hl 5 rfl) ?_
      refine lv_iconst (v := 0) hx hb dL_law_1037 (by decide) ?_
      refine q_lald X hH hf dL_law_1038 (fun v10 hf => ?_)
      refine lv_iload hx hb dL_law_1039 (lv_at hl 0 rfl) ?_
      refine lv_i2l (v := v5.toInt64) hx hb dL_law_1041 rfl ?_
      refine W.lcmp hx hb dL_law_1042 ?_
      refine lv_if_eq (tgt := 1048) hx hb dL_law_1043 (by decide) (fun c11 => ?_) (fun c11 => ?_)
      · have hf := (if_pos c11).mp hf
        exact hJ1048 S6 (bc - mc2) (bs - ms2) l1 l2 l3 l4 l5 hf H locs ls cells slots hH (lv_sub hl [2, 3, 4, 5, 6, 7] rfl) hB
      · have hf := (if_neg c11).mp hf
        refine lv_iconst (v := 0) hx hb dL_law_1046 (by decide) ?_
        exact hf.elim
  · have hf := (if_neg c8).mp hf
    refine lv_iconst (v := 0) hx hb dL_law_1029 (by decide) ?_
    exact hf.elim
set_option maxHeartbeats 4000000 in
set_option maxRecDepth 100000 in
theorem jL_law_1051 {p : Program} {e : Env} {s : State} {m : MethodId} {below : List Frame} {meth : Method} {c : Code} (l : Launch) (D : va_G) (cy : Nat → ClassId) (G : p_GT) (hGC : ∀ (A : Nat → Prop) (U : State) (H : Heap), G A U H → gC A U H) (hst : l.stackTraces = false) (hGE : ∀ (A : Nat → Prop) (U : State) (H : Heap), G A U H → p_Ex A U H) (hGF : ∀ (A : Nat → Prop) (U : State) (H : Heap), G A U H → gF A U H) (adK adV : Nat → Nat) (hGK : ∀ (A : Nat → Prop) (U : State) (H : Heap), G A U H → gK adK adV A U H) (hGN : ∀ (A : Nat → Prop) (U : State) (H : Heap), G A U H → gN A U H) (hGO : ∀ (A : Nat → Prop) (U : State) (H : Heap), G A U H → va_AO "VillageFeud$Village" U) (dT dO : Nat) (hGT : ∀ (A : Nat → Prop) (U : State) (H : Heap), G A U H → gT dT dO A U H) (hGU : ∀ (A : Nat → Prop) (U : State) (H : Heap), G A U H → gU A U H) (A : Nat → Prop) (b L : Nat) (xs : Nat → Int32) (X : p_X p m c cL_law 9 s #[.ref b] RL D cy G A) (hr : meth.sig.returnType = ret) (hlk : meth.locks = false) (hX : va_X b L xs s s.heap) (hbl : b < s.heap.size) (hbA : ¬ A b) (hfree : ∀ q, A q → s.heap.size ≤ q) (g28 : PS → Nat → Nat → Nat → Nat → Nat → Nat → Int32 → Prop) (ih28 : ∀ (S : PS) (bc bs : Nat) (l1 : Nat) (l2 : Nat) (l3 : Nat) (l4 : Nat) (l5 : Int32), g28 S bc bs l1 l2 l3 l4 l5 → ∀ (H : Heap) (locs : List Loc) (ls : Array Slot) (cells slots : Nat), p_H D cy S A s H locs → lv_has ls 9 [(0, .ref b), (1, .ref l1), (2, .ref l2), (3, .ref l3), (4, .ref l4), (5, .int l5)] → cells + bc ≤ room_1.cells ∧ slots + bs ≤ room_1.slots → W p l e room_1 s m #[Value.ref b] below meth c H locs cells slots (lw_Z below #[Value.ref b] s) (F0 m 28 ls [])) : ∀ (S : PS) (bc bs : Nat) (l1 : Nat) (l2 : Nat) (l3 : Nat) (l4 : Nat) (l5 : Int32), f_L_law_J1051 adK L xs g28 S bc bs l1 l2 l3 l4 l5 → ∀ (H : Heap) (locs : List Loc) (ls : Array Slot) (cells slots : Nat), p_H D cy S A s H locs → lv_has ls 9 [(0, .ref b), (1, .ref l1), (2, .ref l2), (3, .ref l3), (4, .ref l4), (5, .int l5)] → cells + bc ≤ room_1.cells ∧ slots + bs ≤ room_1.slots → W p l e room_1 s m #[Value.ref b] below meth c H locs cells slots (lw_Z below #[Value.ref b] s) (F0 m 1051 ls []) := by
  have hx := X.1.1
  have hb := X.1.2.1
  have hJ2561 := jL_law_2561 l D cy G hGC hst hGE hGF adK adV hGK hGN hGO dT dO hGT hGU A b L xs X hr hlk hX hbl hbA hfree g28 ih28
  intro S bc bs l1 l2 l3 l4 l5 hf H locs ls cells slots hH hl hB
  have hJ1116 : ∀ (S : PS) (bc bs : Nat) (l1 : Nat) (l2 : Nat) (l3 : Nat) (l4 : Nat) (l5 : Int32), f_L_law_J1116 adK L xs g28 S bc bs l1 l2 l3 l4 l5 → ∀ (H : Heap) (locs : List Loc) (ls : Array Slot) (cells slots : Nat), p_H D cy S A s H locs → lv_has ls 9 [(0, .ref b), (1, .ref l1), (2, .ref l2), (3, .ref l3), (4, .ref l4), (5, .int l5)] → cells + bc ≤ room_1.cells ∧ slots + bs ≤ room_1.slots → W p l e room_1 s m [.ref b].toArray below meth c H locs cells slots (lw_Z below #[Value.ref b] s) (F0 m 1116 ls []) := by
    intro S bc bs l1 l2 l3 l4 l5 hf H locs ls cells slots hH hl hB
    refine lv_goto (tgt := 2561) hx hb dL_law_1116 (by decide) ?_
    exact hJ2561 S bc bs l1 l2 l3 l4 l5 hf H locs ls cells slots hH hl hB
  refine lv_aload_n hx hb dL_law_1051 rfl (lv_at hl 1 rfl) ?_
  refine lv_aload_n hx hb dL_law_1052 rfl (lv_at hl 0 rfl) ?_
  refine lv_iload hx hb dL_law_1053 (lv_at hl 5 rfl) ?_
  refine lv_iconst (v := 1) hx hb dL_law_1055 (by decide) ?_
  refine lv_iadd hx hb dL_law_1056 ?_
  refine va_sld hx hb hX hbl hbA hH.2.2 hf.1 dL_law_1057 ?_
  have hf := hf.2
  refine lv_aload_n hx hb dL_law_1058 rfl (lv_at hl 0 rfl) ?_
  refine lv_iload hx hb dL_law_1059 (lv_at hl 5 rfl) ?_
  refine lv_iconst (v := 2) hx hb dL_law_1061 (by decide) ?_
  refine lv_iadd hx hb dL_law_1062 ?_
  refine va_sld hx hb hX hbl hbA hH.2.2 hf.1 dL_law_1063 ?_
  have hf := hf.2
  refine lv_aload_n hx hb dL_law_1064 rfl (lv_at hl 3 rfl) ?_
  obtain ⟨mc2, ms2, hm1, hs1, hf⟩ := hf
  refine q_callXi X hH hB hm1 hs1 (q_runSx [.ref l1, .int (xs (l5 + 1).toNatClampNeg), .int (xs (l5 + 2).toNatClampNeg), .ref l3] [] X hH hl (c_L_tieAt l D cy G X.2.2.2.1 hst hGE hGN S l1 (xs (l5 + 1).toNatClampNeg) (xs (l5 + 2).toNatClampNeg) l3 mc2 ms2 _ _ hf) mw_L_tieAt tw_1194 tw_1193 ⟨Nat.le_of_ble_eq_true rfl, Nat.le_of_ble_eq_true rfl⟩ rfl (Nat.le_of_ble_eq_true rfl) dL_law_1065 ⟨Nat.le_trans (Nat.add_le_add_left hm1 _) hB.1, Nat.le_trans (Nat.add_le_add_left hs1 _) hB.2⟩) (fun _ _ _ _ hf _ _ _ _ _ _ _ _ _ => hf.elim) (fun v3 S1 hf H locs cells slots hH hB => ?_)
  refine lv_istore (lv' := [(6, .int v3), (0, .ref b), (1, .ref l1), (2, .ref l2), (3, .ref l3), (4, .ref l4), (5, .int l5)]) hx hb dL_law_1068 hl (by decide) rfl (fun ls hl => ?_)
  refine lv_aload_n hx hb dL_law_1070 rfl (lv_at hl 3 rfl) ?_
  refine lv_aload_n hx hb dL_law_1071 rfl (lv_at hl 1 rfl) ?_
  refine lv_iload hx hb dL_law_1072 (lv_at hl 6 rfl) ?_
  refine lv_iconst (v := 1) hx hb dL_law_1074 (by decide) ?_
  refine lv_iadd hx hb dL_law_1075 ?_
  refine va_sld hx hb hX hbl hbA hH.2.2 hf.1 dL_law_1076 ?_
  have hf := hf.2
  refine lv_aload_n hx hb dL_law_1077 rfl (lv_at hl 1 rfl) ?_
  refine lv_iload hx hb dL_law_1078 (lv_at hl 6 rfl) ?_
  refine lv_iconst (v := 2) hx hb dL_law_1080 (by decide) ?_
  refine lv_iadd hx hb dL_law_1081 ?_
  refine va_sld hx hb hX hbl hbA hH.2.2 hf.1 dL_law_1082 ?_
  have hf := hf.2
  obtain ⟨hb1, hb2, hf⟩ := hf
  refine q_backI0 X hH (q_runV [.int (xs (l5 + 1).toNatClampNeg), .int (xs (l5 + 2).toNatClampNeg)] [] X hH hl (c_X8_tieAt l D cy G X.2.2.2.1 S1 l2 (xs (l5 + 1).toNatClampNeg) (xs (l5 + 2).toNatClampNeg) _ _ hf) mf_X8_tieAt mv_X8_tieAt tw_1856 ⟨Nat.le_of_ble_eq_true rfl, Nat.le_of_ble_eq_true rfl⟩ hb1 hb2 (T := TX8) (N := 25) rfl rfl (Nat.le_of_ble_eq_true rfl) dL_law_1083 ⟨Nat.le_trans (Nat.le_add_right _ _) hB.1, Nat.le_trans (Nat.le_add_right _ _) hB.2⟩) (fun v5 S4 hf H locs hH => ?_)
  refine lv_istore (lv' := [(7, .int v5), (6, .int v3), (0, .ref b), (1, .ref l1), (2, .ref l2), (3, .ref l3), (4, .ref l4), (5, .int l5)]) hx hb dL_law_1086 hl (by decide) rfl (fun ls hl => ?_)
  refine lv_aload_n hx hb dL_law_1088 rfl (lv_at hl 4 rfl) ?_
  obtain ⟨hb1, hb2, hf⟩ := hf
  refine q_backI0 X hH (q_runV [] [] X hH hl (c_X8_thrown l D cy G X.2.2.2.1 S4 l2 _ _ hf) mf_X8_thrown mv_X8_thrown tw_1686 ⟨Nat.le_of_ble_eq_true rfl, Nat.le_of_ble_eq_true rfl⟩ hb1 hb2 (T := TX8) (N := 25) rfl rfl (Nat.le_of_ble_eq_true rfl) dL_law_1089 ⟨Nat.le_trans (Nat.le_add_right _ _) hB.1, Nat.le_trans (Nat.le_add_right _ _) hB.2⟩) (fun v7 S6 hf H locs hH => ?_)
  refine lv_iload hx hb dL_law_1092 (lv_at hl 1 rfl) ?_
  refine lv_icmp_eq (tgt := 1099) hx hb dL_law_1094 (by decide) (fun c8 => ?_) (fun c8 => ?_)
  · have hf := (if_pos c8).mp hf
    refine lv_iload hx hb dL_law_1099 (lv_at hl 1 rfl) ?_
    refine lv_if_ne (tgt := 1116) hx hb dL_law_1101 (by decide) (fun c9 => ?_) (fun c9 => ?_)
    · have hf := (if_neg c9).mp hf
      exact hJ1116 S6 (bc - mc2) (bs - ms2) l1 l2 l3 l4 l5 hf H locs ls cells slots hH (lv_sub hl [2, 3, 4, 5, 6, 7] rfl) hB
    · have hf := (if_pos c9).mp hf
      refine lv_aload_n hx hb dL_law_1104 rfl (lv_at hl 5 rfl) ?_
      refine lv_iconst (v := 0) hx hb dL_law_1105 (by decide) ?_
      refine q_lald X hH hf dL_law_1106 (fun v10 hf => ?_)
      refine lv_iload hx hb dL_law_1107 (lv_at hl 0 rfl) ?_
      refine lv_i2l (v := v5.toInt64) hx hb dL_law_1109 rfl ?_
      refine W.lcmp hx hb dL_law_1110 ?_
      refine lv_if_eq (tgt := 1116) hx hb dL_law_1111 (by decide) (fun c11 => ?_) (fun c11 => ?_)
      · have hf := (if_pos c11).mp hf
        exact hJ1116 S6 (bc - mc2) (bs - ms2) l1 l2 l3 l4 l5 hf H locs ls cells slots hH (lv_sub hl [2, 3, 4, 5, 6, 7] rfl) hB
      · have hf := (if_neg c11).mp hf
        refine lv_iconst (v := 0) hx hb dL_law_1114 (by decide) ?_
        exact hf.elim
  · have hf := (if_neg c8).mp hf
    refine lv_iconst (v := 0) hx hb dL_law_1097 (by decide) ?_
    exact hf.elim
set_option maxHeartbeats 4000000 in
set_option maxRecDepth 100000 in
theorem jL_law_1119 {p : Program} {e : Env} {s : State} {m : MethodId} {below : List Frame} {meth : Method} {c : Code} (l : Launch) (D : va_G) (cy : Nat → ClassId) (G : p_GT) (hGC : ∀ (A : Nat → Prop) (U : State) (H : Heap), G A U H → gC A U H) (hst : l.stackTraces = false) (hGE : ∀ (A : Nat → Prop) (U : State) (H : Heap), G A U H → p_Ex A U H) (hGF : ∀ (A : Nat → Prop) (U : State) (H : Heap), G A U H → gF A U H) (adK adV : Nat → Nat) (hGK : ∀ (A : Nat → Prop) (U : State) (H : Heap), G A U H → gK adK adV A U H) (hGN : ∀ (A : Nat → Prop) (U : State) (H : Heap), G A U H → gN A U H) (hGO : ∀ (A : Nat → Prop) (U : State) (H : Heap), G A U H → va_AO "VillageFeud$Village" U) (dT dO : Nat) (hGT : ∀ (A : Nat → Prop) (U : State) (H : Heap), G A U H → gT dT dO A U H) (hGU : ∀ (A : Nat → Prop) (U : State) (H : Heap), G A U H → gU A U H) (A : Nat → Prop) (b L : Nat) (xs : Nat → Int32) (X : p_X p m c cL_law 9 s #[.ref b] RL D cy G A) (hr : meth.sig.returnType = ret) (hlk : meth.locks = false) (hX : va_X b L xs s s.heap) (hbl : b < s.heap.size) (hbA : ¬ A b) (hfree : ∀ q, A q → s.heap.size ≤ q) (g28 : PS → Nat → Nat → Nat → Nat → Nat → Nat → Int32 → Prop) (ih28 : ∀ (S : PS) (bc bs : Nat) (l1 : Nat) (l2 : Nat) (l3 : Nat) (l4 : Nat) (l5 : Int32), g28 S bc bs l1 l2 l3 l4 l5 → ∀ (H : Heap) (locs : List Loc) (ls : Array Slot) (cells slots : Nat), p_H D cy S A s H locs → lv_has ls 9 [(0, .ref b), (1, .ref l1), (2, .ref l2), (3, .ref l3), (4, .ref l4), (5, .int l5)] → cells + bc ≤ room_1.cells ∧ slots + bs ≤ room_1.slots → W p l e room_1 s m #[Value.ref b] below meth c H locs cells slots (lw_Z below #[Value.ref b] s) (F0 m 28 ls [])) : ∀ (S : PS) (bc bs : Nat) (l1 : Nat) (l2 : Nat) (l3 : Nat) (l4 : Nat) (l5 : Int32), f_L_law_J1119 adK L xs g28 S bc bs l1 l2 l3 l4 l5 → ∀ (H : Heap) (locs : List Loc) (ls : Array Slot) (cells slots : Nat), p_H D cy S A s H locs → lv_has ls 9 [(0, .ref b), (1, .ref l1), (2, .ref l2), (3, .ref l3), (4, .ref l4), (5, .int l5)] → cells + bc ≤ room_1.cells ∧ slots + bs ≤ room_1.slots → W p l e room_1 s m #[Value.ref b] below meth c H locs cells slots (lw_Z below #[Value.ref b] s) (F0 m 1119 ls []) := by
  have hx := X.1.1
  have hb := X.1.2.1
  have hJ2561 := jL_law_2561 l D cy G hGC hst hGE hGF adK adV hGK hGN hGO dT dO hGT hGU A b L xs X hr hlk hX hbl hbA hfree g28 ih28
  intro S bc bs l1 l2 l3 l4 l5 hf H locs ls cells slots hH hl hB
  have hJ1160 : ∀ (S : PS) (bc bs : Nat) (l1 : Nat) (l2 : Nat) (l3 : Nat) (l4 : Nat) (l5 : Int32), f_L_law_J1160 adK L xs g28 S bc bs l1 l2 l3 l4 l5 → ∀ (H : Heap) (locs : List Loc) (ls : Array Slot) (cells slots : Nat), p_H D cy S A s H locs → lv_has ls 9 [(0, .ref b), (1, .ref l1), (2, .ref l2), (3, .ref l3), (4, .ref l4), (5, .int l5)] → cells + bc ≤ room_1.cells ∧ slots + bs ≤ room_1.slots → W p l e room_1 s m [.ref b].toArray below meth c H locs cells slots (lw_Z below #[Value.ref b] s) (F0 m 1160 ls []) := by
    intro S bc bs l1 l2 l3 l4 l5 hf H locs ls cells slots hH hl hB
    refine lv_goto (tgt := 2561) hx hb dL_law_1160 (by decide) ?_
    exact hJ2561 S bc bs l1 l2 l3 l4 l5 hf H locs ls cells slots hH hl hB
  refine lv_aload_n hx hb dL_law_1119 rfl (lv_at hl 1 rfl) ?_
  refine lv_aload_n hx hb dL_law_1120 rfl (lv_at hl 3 rfl) ?_
  obtain ⟨mc2, ms2, hm1, hs1, hf⟩ := hf
  refine q_callXi X hH hB hm1 hs1 (q_runSx [.ref l1, .ref l3] [] X hH hl (c_L_least l D cy G X.2.2.2.1 hst hGE S l1 l3 mc2 ms2 _ _ hf) mw_L_least tw_1202 tw_1201 ⟨Nat.le_of_ble_eq_true rfl, Nat.le_of_ble_eq_true rfl⟩ rfl (Nat.le_of_ble_eq_true rfl) dL_law_1121 ⟨Nat.le_trans (Nat.add_le_add_left hm1 _) hB.1, Nat.le_trans (Nat.add_le_add_left hs1 _) hB.2⟩) (fun _ _ _ _ hf _ _ _ _ _ _ _ _ _ => hf.elim) (fun v3 S1 hf H locs cells slots hH hB => ?_)
  refine lv_istore (lv' := [(6, .int v3), (0, .ref b), (1, .ref l1), (2, .ref l2), (3, .ref l3), (4, .ref l4), (5, .int l5)]) hx hb dL_law_1124 hl (by decide) rfl (fun ls hl => ?_)
  refine lv_aload_n hx hb dL_law_1126 rfl (lv_at hl 3 rfl) ?_
  obtain ⟨hb1, hb2, hf⟩ := hf
  refine q_backI0 X hH (q_runV [] [] X hH hl (c_X8_least l D cy G X.2.2.2.1 S1 l2 _ _ hf) mf_X8_least mv_X8_least tw_1860 ⟨Nat.le_of_ble_eq_true rfl, Nat.le_of_ble_eq_true rfl⟩ hb1 hb2 (T := TX8) (N := 25) rfl rfl (Nat.le_of_ble_eq_true rfl) dL_law_1127 ⟨Nat.le_trans (Nat.le_add_right _ _) hB.1, Nat.le_trans (Nat.le_add_right _ _) hB.2⟩) (fun v5 S4 hf H locs hH => ?_)
  refine lv_istore (lv' := [(7, .int v5), (6, .int v3), (0, .ref b), (1, .ref l1), (2, .ref l2), (3, .ref l3), (4, .ref l4), (5, .int l5)]) hx hb dL_law_1130 hl (by decide) rfl (fun ls hl => ?_)
  refine lv_aload_n hx hb dL_law_1132 rfl (lv_at hl 4 rfl) ?_
  obtain ⟨hb1, hb2, hf⟩ := hf
  refine q_backI0 X hH (q_runV [] [] X hH hl (c_X8_thrown l D cy G X.2.2.2.1 S4 l2 _ _ hf) mf_X8_thrown mv_X8_thrown tw_1686 ⟨Nat.le_of_ble_eq_true rfl, Nat.le_of_ble_eq_true rfl⟩ hb1 hb2 (T := TX8) (N := 25) rfl rfl (Nat.le_of_ble_eq_true rfl) dL_law_1133 ⟨Nat.le_trans (Nat.le_add_right _ _) hB.1, Nat.le_trans (Nat.le_add_right _ _) hB.2⟩) (fun v7 S6 hf H locs hH => ?_)
  refine lv_iload hx hb dL_law_1136 (lv_at hl 1 rfl) ?_
  refine lv_icmp_eq (tgt := 1143) hx hb dL_law_1138 (by decide) (fun c8 => ?_) (fun c8 => ?_)
  · have hf := (if_pos c8).mp hf
    refine lv_iload hx hb dL_law_1143 (lv_at hl 1 rfl) ?_
    refine lv_if_ne (tgt := 1160) hx hb dL_law_1145 (by decide) (fun c9 => ?_) (fun c9 => ?_)
    · have hf := (if_neg c9).mp hf
      exact hJ1160 S6 (bc - mc2) (bs - ms2) l1 l2 l3 l4 l5 hf H locs ls cells slots hH (lv_sub hl [2, 3, 4, 5, 6, 7] rfl) hB
    · have hf := (if_pos c9).mp hf
      refine lv_aload_n hx hb dL_law_1148 rfl (lv_at hl 5 rfl) ?_
      refine lv_iconst (v := 0) hx hb dL_law_1149 (by decide) ?_
      refine q_lald X hH hf dL_law_1150 (fun v10 hf => ?_)
      refine lv_iload hx hb dL_law_1151 (lv_at hl 0 rfl) ?_
      refine lv_i2l (v := v5.toInt64) hx hb dL_law_1153 rfl ?_
      refine W.lcmp hx hb dL_law_1154 ?_
      refine lv_if_eq (tgt := 1160) hx hb dL_law_1155 (by decide) (fun c11 => ?_) (fun c11 => ?_)
      · have hf := (if_pos c11).mp hf
        exact hJ1160 S6 (bc - mc2) (bs - ms2) l1 l2 l3 l4 l5 hf H locs ls cells slots hH (lv_sub hl [2, 3, 4, 5, 6, 7] rfl) hB
      · have hf := (if_neg c11).mp hf
        refine lv_iconst (v := 0) hx hb dL_law_1158 (by decide) ?_
        exact hf.elim
  · have hf := (if_neg c8).mp hf
    refine lv_iconst (v := 0) hx hb dL_law_1141 (by decide) ?_
    exact hf.elim
set_option maxHeartbeats 4000000 in
set_option maxRecDepth 100000 in
theorem jL_law_1163 {p : Program} {e : Env} {s : State} {m : MethodId} {below : List Frame} {meth : Method} {c : Code} (l : Launch) (D : va_G) (cy : Nat → ClassId) (G : p_GT) (hGC : ∀ (A : Nat → Prop) (U : State) (H : Heap), G A U H → gC A U H) (hst : l.stackTraces = false) (hGE : ∀ (A : Nat → Prop) (U : State) (H : Heap), G A U H → p_Ex A U H) (hGF : ∀ (A : Nat → Prop) (U : State) (H : Heap), G A U H → gF A U H) (adK adV : Nat → Nat) (hGK : ∀ (A : Nat → Prop) (U : State) (H : Heap), G A U H → gK adK adV A U H) (hGN : ∀ (A : Nat → Prop) (U : State) (H : Heap), G A U H → gN A U H) (hGO : ∀ (A : Nat → Prop) (U : State) (H : Heap), G A U H → va_AO "VillageFeud$Village" U) (dT dO : Nat) (hGT : ∀ (A : Nat → Prop) (U : State) (H : Heap), G A U H → gT dT dO A U H) (hGU : ∀ (A : Nat → Prop) (U : State) (H : Heap), G A U H → gU A U H) (A : Nat → Prop) (b L : Nat) (xs : Nat → Int32) (X : p_X p m c cL_law 9 s #[.ref b] RL D cy G A) (hr : meth.sig.returnType = ret) (hlk : meth.locks = false) (hX : va_X b L xs s s.heap) (hbl : b < s.heap.size) (hbA : ¬ A b) (hfree : ∀ q, A q → s.heap.size ≤ q) (g28 : PS → Nat → Nat → Nat → Nat → Nat → Nat → Int32 → Prop) (ih28 : ∀ (S : PS) (bc bs : Nat) (l1 : Nat) (l2 : Nat) (l3 : Nat) (l4 : Nat) (l5 : Int32), g28 S bc bs l1 l2 l3 l4 l5 → ∀ (H : Heap) (locs : List Loc) (ls : Array Slot) (cells slots : Nat), p_H D cy S A s H locs → lv_has ls 9 [(0, .ref b), (1, .ref l1), (2, .ref l2), (3, .ref l3), (4, .ref l4), (5, .int l5)] → cells + bc ≤ room_1.cells ∧ slots + bs ≤ room_1.slots → W p l e room_1 s m #[Value.ref b] below meth c H locs cells slots (lw_Z below #[Value.ref b] s) (F0 m 28 ls [])) : ∀ (S : PS) (bc bs : Nat) (l1 : Nat) (l2 : Nat) (l3 : Nat) (l4 : Nat) (l5 : Int32), f_L_law_J1163 adK L xs g28 S bc bs l1 l2 l3 l4 l5 → ∀ (H : Heap) (locs : List Loc) (ls : Array Slot) (cells slots : Nat), p_H D cy S A s H locs → lv_has ls 9 [(0, .ref b), (1, .ref l1), (2, .ref l2), (3, .ref l3), (4, .ref l4), (5, .int l5)] → cells + bc ≤ room_1.cells ∧ slots + bs ≤ room_1.slots → W p l e room_1 s m #[Value.ref b] below meth c H locs cells slots (lw_Z below #[Value.ref b] s) (F0 m 1163 ls []) := by
  have hx := X.1.1
  have hb := X.1.2.1
  have hJ2561 := jL_law_2561 l D cy G hGC hst hGE hGF adK adV hGK hGN hGO dT dO hGT hGU A b L xs X hr hlk hX hbl hbA hfree g28 ih28
  intro S bc bs l1 l2 l3 l4 l5 hf H locs ls cells slots hH hl hB
  have hJ1204 : ∀ (S : PS) (bc bs : Nat) (l1 : Nat) (l2 : Nat) (l3 : Nat) (l4 : Nat) (l5 : Int32), f_L_law_J1204 adK L xs g28 S bc bs l1 l2 l3 l4 l5 → ∀ (H : Heap) (locs : List Loc) (ls : Array Slot) (cells slots : Nat), p_H D cy S A s H locs → lv_has ls 9 [(0, .ref b), (1, .ref l1), (2, .ref l2), (3, .ref l3), (4, .ref l4), (5, .int l5)] → cells + bc ≤ room_1.cells ∧ slots + bs ≤ room_1.slots → W p l e room_1 s m [.ref b].toArray below meth c H locs cells slots (lw_Z below #[Value.ref b] s) (F0 m 1204 ls []) := by
    intro S bc bs l1 l2 l3 l4 l5 hf H locs ls cells slots hH hl hB
    refine lv_goto (tgt := 2561) hx hb dL_law_1204 (by decide) ?_
    exact hJ2561 S bc bs l1 l2 l3 l4 l5 hf H locs ls cells slots hH hl hB
  refine lv_aload_n hx hb dL_law_1163 rfl (lv_at hl 1 rfl) ?_
  refine lv_aload_n hx hb dL_law_1164 rfl (lv_at hl 3 rfl) ?_
  obtain ⟨mc2, ms2, hm1, hs1, hf⟩ := hf
  refine q_callXi X hH hB hm1 hs1 (q_runSx [.ref l1, .ref l3] [] X hH hl (c_L_leastAgain l D cy G X.2.2.2.1 hst hGE S l1 l3 mc2 ms2 _ _ hf) mw_L_leastAgain tw_1209 tw_1208 ⟨Nat.le_of_ble_eq_true rfl, Nat.le_of_ble_eq_true rfl⟩ rfl (Nat.le_of_ble_eq_true rfl) dL_law_1165 ⟨Nat.le_trans (Nat.add_le_add_left hm1 _) hB.1, Nat.le_trans (Nat.add_le_add_left hs1 _) hB.2⟩) (fun _ _ _ _ hf _ _ _ _ _ _ _ _ _ => hf.elim) (fun v3 S1 hf H locs cells slots hH hB => ?_)
  refine lv_istore (lv' := [(6, .int v3), (0, .ref b), (1, .ref l1), (2, .ref l2), (3, .ref l3), (4, .ref l4), (5, .int l5)]) hx hb dL_law_1168 hl (by decide) rfl (fun ls hl => ?_)
  refine lv_aload_n hx hb dL_law_1170 rfl (lv_at hl 3 rfl) ?_
  obtain ⟨hb1, hb2, hf⟩ := hf
  refine q_backI0 X hH (q_runV [] [] X hH hl (c_X8_leastAgain l D cy G X.2.2.2.1 S1 l2 _ _ hf) mf_X8_leastAgain mv_X8_leastAgain tw_1876 ⟨Nat.le_of_ble_eq_true rfl, Nat.le_of_ble_eq_true rfl⟩ hb1 hb2 (T := TX8) (N := 25) rfl rfl (Nat.le_of_ble_eq_true rfl) dL_law_1171 ⟨Nat.le_trans (Nat.le_add_right _ _) hB.1, Nat.le_trans (Nat.le_add_right _ _) hB.2⟩) (fun v5 S4 hf H locs hH => ?_)
  refine lv_istore (lv' := [(7, .int v5), (6, .int v3), (0, .ref b), (1, .ref l1), (2, .ref l2), (3, .ref l3), (4, .ref l4), (5, .int l5)]) hx hb dL_law_1174 hl (by decide) rfl (fun ls hl => ?_)
  refine lv_aload_n hx hb dL_law_1176 rfl (lv_at hl 4 rfl) ?_
  obtain ⟨hb1, hb2, hf⟩ := hf
  refine q_backI0 X hH (q_runV [] [] X hH hl (c_X8_thrown l D cy G X.2.2.2.1 S4 l2 _ _ hf) mf_X8_thrown mv_X8_thrown tw_1686 ⟨Nat.le_of_ble_eq_true rfl, Nat.le_of_ble_eq_true rfl⟩ hb1 hb2 (T := TX8) (N := 25) rfl rfl (Nat.le_of_ble_eq_true rfl) dL_law_1177 ⟨Nat.le_trans (Nat.le_add_right _ _) hB.1, Nat.le_trans (Nat.le_add_right _ _) hB.2⟩) (fun v7 S6 hf H locs hH => ?_)
  refine lv_iload hx hb dL_law_1180 (lv_at hl 1 rfl) ?_
  refine lv_icmp_eq (tgt := 1187) hx hb dL_law_1182 (by decide) (fun c8 => ?_) (fun c8 => ?_)
  · have hf := (if_pos c8).mp hf
    refine lv_iload hx hb dL_law_1187 (lv_at hl 1 rfl) ?_
    refine lv_if_ne (tgt := 1204) hx hb dL_law_1189 (by decide) (fun c9 => ?_) (fun c9 => ?_)
    · have hf := (if_neg c9).mp hf
      exact hJ1204 S6 (bc - mc2) (bs - ms2) l1 l2 l3 l4 l5 hf H locs ls cells slots hH (lv_sub hl [2, 3, 4, 5, 6, 7] rfl) hB
    · have hf := (if_pos c9).mp hf
      refine lv_aload_n hx hb dL_law_1192 rfl (lv_at hl 5 rfl) ?_
      refine lv_iconst (v := 0) hx hb dL_law_1193 (by decide) ?_
      refine q_lald X hH hf dL_law_1194 (fun v10 hf => ?_)
      refine lv_iload hx hb dL_law_1195 (lv_at hl 0 rfl) ?_
      refine lv_i2l (v := v5.toInt64) hx hb dL_law_1197 rfl ?_
      refine W.lcmp hx hb dL_law_1198 ?_
      refine lv_if_eq (tgt := 1204) hx hb dL_law_1199 (by decide) (fun c11 => ?_) (fun c11 => ?_)
      · have hf := (if_pos c11).mp hf
        exact hJ1204 S6 (bc - mc2) (bs - ms2) l1 l2 l3 l4 l5 hf H locs ls cells slots hH (lv_sub hl [2, 3, 4, 5, 6, 7] rfl) hB
      · have hf := (if_neg c11).mp hf
        refine lv_iconst (v := 0) hx hb dL_law_1202 (by decide) ?_
        exact hf.elim
  · have hf := (if_neg c8).mp hf
    refine lv_iconst (v := 0) hx hb dL_law_1185 (by decide) ?_
    exact hf.elim
set_option maxHeartbeats 4000000 in
set_option maxRecDepth 100000 in
theorem jL_law_1207 {p : Program} {e : Env} {s : State} {m : MethodId} {below : List Frame} {meth : Method} {c : Code} (l : Launch) (D : va_G) (cy : Nat → ClassId) (G : p_GT) (hGC : ∀ (A : Nat → Prop) (U : State) (H : Heap), G A U H → gC A U H) (hst : l.stackTraces = false) (hGE : ∀ (A : Nat → Prop) (U : State) (H : Heap), G A U H → p_Ex A U H) (hGF : ∀ (A : Nat → Prop) (U : State) (H : Heap), G A U H → gF A U H) (adK adV : Nat → Nat) (hGK : ∀ (A : Nat → Prop) (U : State) (H : Heap), G A U H → gK adK adV A U H) (hGN : ∀ (A : Nat → Prop) (U : State) (H : Heap), G A U H → gN A U H) (hGO : ∀ (A : Nat → Prop) (U : State) (H : Heap), G A U H → va_AO "VillageFeud$Village" U) (dT dO : Nat) (hGT : ∀ (A : Nat → Prop) (U : State) (H : Heap), G A U H → gT dT dO A U H) (hGU : ∀ (A : Nat → Prop) (U : State) (H : Heap), G A U H → gU A U H) (A : Nat → Prop) (b L : Nat) (xs : Nat → Int32) (X : p_X p m c cL_law 9 s #[.ref b] RL D cy G A) (hr : meth.sig.returnType = ret) (hlk : meth.locks = false) (hX : va_X b L xs s s.heap) (hbl : b < s.heap.size) (hbA : ¬ A b) (hfree : ∀ q, A q → s.heap.size ≤ q) (g28 : PS → Nat → Nat → Nat → Nat → Nat → Nat → Int32 → Prop) (ih28 : ∀ (S : PS) (bc bs : Nat) (l1 : Nat) (l2 : Nat) (l3 : Nat) (l4 : Nat) (l5 : Int32), g28 S bc bs l1 l2 l3 l4 l5 → ∀ (H : Heap) (locs : List Loc) (ls : Array Slot) (cells slots : Nat), p_H D cy S A s H locs → lv_has ls 9 [(0, .ref b), (1, .ref l1), (2, .ref l2), (3, .ref l3), (4, .ref l4), (5, .int l5)] → cells + bc ≤ room_1.cells ∧ slots + bs ≤ room_1.slots → W p l e room_1 s m #[Value.ref b] below meth c H locs cells slots (lw_Z below #[Value.ref b] s) (F0 m 28 ls [])) : ∀ (S : PS) (bc bs : Nat) (l1 : Nat) (l2 : Nat) (l3 : Nat) (l4 : Nat) (l5 : Int32), f_L_law_J1207 adK L xs g28 S bc bs l1 l2 l3 l4 l5 → ∀ (H : Heap) (locs : List Loc) (ls : Array Slot) (cells slots : Nat), p_H D cy S A s H locs → lv_has ls 9 [(0, .ref b), (1, .ref l1), (2, .ref l2), (3, .ref l3), (4, .ref l4), (5, .int l5)] → cells + bc ≤ room_1.cells ∧ slots + bs ≤ room_1.slots → W p l e room_1 s m #[Value.ref b] below meth c H locs cells slots (lw_Z below #[Value.ref b] s) (F0 m 1207 ls []) := by
  have hx := X.1.1
  have hb := X.1.2.1
  have hJ2561 := jL_law_2561 l D cy G hGC hst hGE hGF adK adV hGK hGN hGO dT dO hGT hGU A b L xs X hr hlk hX hbl hbA hfree g28 ih28
  intro S bc bs l1 l2 l3 l4 l5 hf H locs ls cells slots hH hl hB
  have hJ1248 : ∀ (S : PS) (bc bs : Nat) (l1 : Nat) (l2 : Nat) (l3 : Nat) (l4 : Nat) (l5 : Int32), f_L_law_J1248 adK L xs g28 S bc bs l1 l2 l3 l4 l5 → ∀ (H : Heap) (locs : List Loc) (ls : Array Slot) (cells slots : Nat), p_H D cy S A s H locs → lv_has ls 9 [(0, .ref b), (1, .ref l1), (2, .ref l2), (3, .ref l3), (4, .ref l4), (5, .int l5)] → cells + bc ≤ room_1.cells ∧ slots + bs ≤ room_1.slots → W p l e room_1 s m [.ref b].toArray below meth c H locs cells slots (lw_Z below #[Value.ref b] s) (F0 m 1248 ls []) := by
    intro S bc bs l1 l2 l3 l4 l5 hf H locs ls cells slots hH hl hB
    refine lv_goto (tgt := 2561) hx hb dL_law_1248 (by decide) ?_
    exact hJ2561 S bc bs l1 l2 l3 l4 l5 hf H locs ls cells slots hH hl hB
  refine lv_aload_n hx hb dL_law_1207 rfl (lv_at hl 1 rfl) ?_
  refine lv_aload_n hx hb dL_law_1208 rfl (lv_at hl 3 rfl) ?_
  obtain ⟨mc2, ms2, hm1, hs1, hf⟩ := hf
  refine q_callXi X hH hB hm1 hs1 (q_runSx [.ref l1, .ref l3] [] X hH hl (c_L_met l D cy G X.2.2.2.1 hst hGE S l1 l3 mc2 ms2 _ _ hf) mw_L_met tw_1216 tw_1215 ⟨Nat.le_of_ble_eq_true rfl, Nat.le_of_ble_eq_true rfl⟩ rfl (Nat.le_of_ble_eq_true rfl) dL_law_1209 ⟨Nat.le_trans (Nat.add_le_add_left hm1 _) hB.1, Nat.le_trans (Nat.add_le_add_left hs1 _) hB.2⟩) (fun _ _ _ _ hf _ _ _ _ _ _ _ _ _ => hf.elim) (fun v3 S1 hf H locs cells slots hH hB => ?_)
  refine lv_istore (lv' := [(6, .int v3), (0, .ref b), (1, .ref l1), (2, .ref l2), (3, .ref l3), (4, .ref l4), (5, .int l5)]) hx hb dL_law_1212 hl (by decide) rfl (fun ls hl => ?_)
  refine lv_aload_n hx hb dL_law_1214 rfl (lv_at hl 3 rfl) ?_
  obtain ⟨hb1, hb2, hf⟩ := hf
  refine q_backI0 X hH (q_runV [] [] X hH hl (c_X8_met l D cy G X.2.2.2.1 S1 l2 _ _ hf) mf_X8_met mv_X8_met tw_1881 ⟨Nat.le_of_ble_eq_true rfl, Nat.le_of_ble_eq_true rfl⟩ hb1 hb2 (T := TX8) (N := 25) rfl rfl (Nat.le_of_ble_eq_true rfl) dL_law_1215 ⟨Nat.le_trans (Nat.le_add_right _ _) hB.1, Nat.le_trans (Nat.le_add_right _ _) hB.2⟩) (fun v5 S4 hf H locs hH => ?_)
  refine lv_istore (lv' := [(7, .int v5), (6, .int v3), (0, .ref b), (1, .ref l1), (2, .ref l2), (3, .ref l3), (4, .ref l4), (5, .int l5)]) hx hb dL_law_1218 hl (by decide) rfl (fun ls hl => ?_)
  refine lv_aload_n hx hb dL_law_1220 rfl (lv_at hl 4 rfl) ?_
  obtain ⟨hb1, hb2, hf⟩ := hf
  refine q_backI0 X hH (q_runV [] [] X hH hl (c_X8_thrown l D cy G X.2.2.2.1 S4 l2 _ _ hf) mf_X8_thrown mv_X8_thrown tw_1686 ⟨Nat.le_of_ble_eq_true rfl, Nat.le_of_ble_eq_true rfl⟩ hb1 hb2 (T := TX8) (N := 25) rfl rfl (Nat.le_of_ble_eq_true rfl) dL_law_1221 ⟨Nat.le_trans (Nat.le_add_right _ _) hB.1, Nat.le_trans (Nat.le_add_right _ _) hB.2⟩) (fun v7 S6 hf H locs hH => ?_)
  refine lv_iload hx hb dL_law_1224 (lv_at hl 1 rfl) ?_
  refine lv_icmp_eq (tgt := 1231) hx hb dL_law_1226 (by decide) (fun c8 => ?_) (fun c8 => ?_)
  · have hf := (if_pos c8).mp hf
    refine lv_iload hx hb dL_law_1231 (lv_at hl 1 rfl) ?_
    refine lv_if_ne (tgt := 1248) hx hb dL_law_1233 (by decide) (fun c9 => ?_) (fun c9 => ?_)
    · have hf := (if_neg c9).mp hf
      exact hJ1248 S6 (bc - mc2) (bs - ms2) l1 l2 l3 l4 l5 hf H locs ls cells slots hH (lv_sub hl [2, 3, 4, 5, 6, 7] rfl) hB
    · have hf := (if_pos c9).mp hf
      refine lv_aload_n hx hb dL_law_1236 rfl (lv_at hl 5 rfl) ?_
      refine lv_iconst (v := 0) hx hb dL_law_1237 (by decide) ?_
      refine q_lald X hH hf dL_law_1238 (fun v10 hf => ?_)
      refine lv_iload hx hb dL_law_1239 (lv_at hl 0 rfl) ?_
      refine lv_i2l (v := v5.toInt64) hx hb dL_law_1241 rfl ?_
      refine W.lcmp hx hb dL_law_1242 ?_
      refine lv_if_eq (tgt := 1248) hx hb dL_law_1243 (by decide) (fun c11 => ?_) (fun c11 => ?_)
      · have hf := (if_pos c11).mp hf
        exact hJ1248 S6 (bc - mc2) (bs - ms2) l1 l2 l3 l4 l5 hf H locs ls cells slots hH (lv_sub hl [2, 3, 4, 5, 6, 7] rfl) hB
      · have hf := (if_neg c11).mp hf
        refine lv_iconst (v := 0) hx hb dL_law_1246 (by decide) ?_
        exact hf.elim
  · have hf := (if_neg c8).mp hf
    refine lv_iconst (v := 0) hx hb dL_law_1229 (by decide) ?_
    exact hf.elim
set_option maxHeartbeats 4000000 in
set_option maxRecDepth 100000 in
theorem jL_law_1251 {p : Program} {e : Env} {s : State} {m : MethodId} {below : List Frame} {meth : Method} {c : Code} (l : Launch) (D : va_G) (cy : Nat → ClassId) (G : p_GT) (hGC : ∀ (A : Nat → Prop) (U : State) (H : Heap), G A U H → gC A U H) (hst : l.stackTraces = false) (hGE : ∀ (A : Nat → Prop) (U : State) (H : Heap), G A U H → p_Ex A U H) (hGF : ∀ (A : Nat → Prop) (U : State) (H : Heap), G A U H → gF A U H) (adK adV : Nat → Nat) (hGK : ∀ (A : Nat → Prop) (U : State) (H : Heap), G A U H → gK adK adV A U H) (hGN : ∀ (A : Nat → Prop) (U : State) (H : Heap), G A U H → gN A U H) (hGO : ∀ (A : Nat → Prop) (U : State) (H : Heap), G A U H → va_AO "VillageFeud$Village" U) (dT dO : Nat) (hGT : ∀ (A : Nat → Prop) (U : State) (H : Heap), G A U H → gT dT dO A U H) (hGU : ∀ (A : Nat → Prop) (U : State) (H : Heap), G A U H → gU A U H) (A : Nat → Prop) (b L : Nat) (xs : Nat → Int32) (X : p_X p m c cL_law 9 s #[.ref b] RL D cy G A) (hr : meth.sig.returnType = ret) (hlk : meth.locks = false) (hX : va_X b L xs s s.heap) (hbl : b < s.heap.size) (hbA : ¬ A b) (hfree : ∀ q, A q → s.heap.size ≤ q) (g28 : PS → Nat → Nat → Nat → Nat → Nat → Nat → Int32 → Prop) (ih28 : ∀ (S : PS) (bc bs : Nat) (l1 : Nat) (l2 : Nat) (l3 : Nat) (l4 : Nat) (l5 : Int32), g28 S bc bs l1 l2 l3 l4 l5 → ∀ (H : Heap) (locs : List Loc) (ls : Array Slot) (cells slots : Nat), p_H D cy S A s H locs → lv_has ls 9 [(0, .ref b), (1, .ref l1), (2, .ref l2), (3, .ref l3), (4, .ref l4), (5, .int l5)] → cells + bc ≤ room_1.cells ∧ slots + bs ≤ room_1.slots → W p l e room_1 s m #[Value.ref b] below meth c H locs cells slots (lw_Z below #[Value.ref b] s) (F0 m 28 ls [])) : ∀ (S : PS) (bc bs : Nat) (l1 : Nat) (l2 : Nat) (l3 : Nat) (l4 : Nat) (l5 : Int32), f_L_law_J1251 adK L xs g28 S bc bs l1 l2 l3 l4 l5 → ∀ (H : Heap) (locs : List Loc) (ls : Array Slot) (cells slots : Nat), p_H D cy S A s H locs → lv_has ls 9 [(0, .ref b), (1, .ref l1), (2, .ref l2), (3, .ref l3), (4, .ref l4), (5, .int l5)] → cells + bc ≤ room_1.cells ∧ slots + bs ≤ room_1.slots → W p l e room_1 s m #[Value.ref b] below meth c H locs cells slots (lw_Z below #[Value.ref b] s) (F0 m 1251 ls []) := by
  have hx := X.1.1
  have hb := X.1.2.1
  have hJ2561 := jL_law_2561 l D cy G hGC hst hGE hGF adK adV hGK hGN hGO dT dO hGT hGU A b L xs X hr hlk hX hbl hbA hfree g28 ih28
  intro S bc bs l1 l2 l3 l4 l5 hf H locs ls cells slots hH hl hB
  have hJ1292 : ∀ (S : PS) (bc bs : Nat) (l1 : Nat) (l2 : Nat) (l3 : Nat) (l4 : Nat) (l5 : Int32), f_L_law_J1292 adK L xs g28 S bc bs l1 l2 l3 l4 l5 → ∀ (H : Heap) (locs : List Loc) (ls : Array Slot) (cells slots : Nat), p_H D cy S A s H locs → lv_has ls 9 [(0, .ref b), (1, .ref l1), (2, .ref l2), (3, .ref l3), (4, .ref l4), (5, .int l5)] → cells + bc ≤ room_1.cells ∧ slots + bs ≤ room_1.slots → W p l e room_1 s m [.ref b].toArray below meth c H locs cells slots (lw_Z below #[Value.ref b] s) (F0 m 1292 ls []) := by
    intro S bc bs l1 l2 l3 l4 l5 hf H locs ls cells slots hH hl hB
    refine lv_goto (tgt := 2561) hx hb dL_law_1292 (by decide) ?_
    exact hJ2561 S bc bs l1 l2 l3 l4 l5 hf H locs ls cells slots hH hl hB
  refine lv_aload_n hx hb dL_law_1251 rfl (lv_at hl 1 rfl) ?_
  refine lv_aload_n hx hb dL_law_1252 rfl (lv_at hl 3 rfl) ?_
  obtain ⟨mc2, ms2, hm1, hs1, hf⟩ := hf
  refine q_callXi X hH hB hm1 hs1 (q_runSx [.ref l1, .ref l3] [] X hH hl (c_L_leastSides l D cy G X.2.2.2.1 hst hGE S l1 l3 mc2 ms2 _ _ hf) mw_L_leastSides tw_1223 tw_1222 ⟨Nat.le_of_ble_eq_true rfl, Nat.le_of_ble_eq_true rfl⟩ rfl (Nat.le_of_ble_eq_true rfl) dL_law_1253 ⟨Nat.le_trans (Nat.add_le_add_left hm1 _) hB.1, Nat.le_trans (Nat.add_le_add_left hs1 _) hB.2⟩) (fun _ _ _ _ hf _ _ _ _ _ _ _ _ _ => hf.elim) (fun v3 S1 hf H locs cells slots hH hB => ?_)
  refine lv_istore (lv' := [(6, .int v3), (0, .ref b), (1, .ref l1), (2, .ref l2), (3, .ref l3), (4, .ref l4), (5, .int l5)]) hx hb dL_law_1256 hl (by decide) rfl (fun ls hl => ?_)
  refine lv_aload_n hx hb dL_law_1258 rfl (lv_at hl 3 rfl) ?_
  obtain ⟨hb1, hb2, hf⟩ := hf
  refine q_backI0 X hH (q_runV [] [] X hH hl (c_X8_leastSides l D cy G X.2.2.2.1 S1 l2 _ _ hf) mf_X8_leastSides mv_X8_leastSides tw_1885 ⟨Nat.le_of_ble_eq_true rfl, Nat.le_of_ble_eq_true rfl⟩ hb1 hb2 (T := TX8) (N := 25) rfl rfl (Nat.le_of_ble_eq_true rfl) dL_law_1259 ⟨Nat.le_trans (Nat.le_add_right _ _) hB.1, Nat.le_trans (Nat.le_add_right _ _) hB.2⟩) (fun v5 S4 hf H locs hH => ?_)
  refine lv_istore (lv' := [(7, .int v5), (6, .int v3), (0, .ref b), (1, .ref l1), (2, .ref l2), (3, .ref l3), (4, .ref l4), (5, .int l5)]) hx hb dL_law_1262 hl (by decide) rfl (fun ls hl => ?_)
  refine lv_aload_n hx hb dL_law_1264 rfl (lv_at hl 4 rfl) ?_
  obtain ⟨hb1, hb2, hf⟩ := hf
  refine q_backI0 X hH (q_runV [] [] X hH hl (c_X8_thrown l D cy G X.2.2.2.1 S4 l2 _ _ hf) mf_X8_thrown mv_X8_thrown tw_1686 ⟨Nat.le_of_ble_eq_true rfl, Nat.le_of_ble_eq_true rfl⟩ hb1 hb2 (T := TX8) (N := 25) rfl rfl (Nat.le_of_ble_eq_true rfl) dL_law_1265 ⟨Nat.le_trans (Nat.le_add_right _ _) hB.1, Nat.le_trans (Nat.le_add_right _ _) hB.2⟩) (fun v7 S6 hf H locs hH => ?_)
  refine lv_iload hx hb dL_law_1268 (lv_at hl 1 rfl) ?_
  refine lv_icmp_eq (tgt := 1275) hx hb dL_law_1270 (by decide) (fun c8 => ?_) (fun c8 => ?_)
  · have hf := (if_pos c8).mp hf
    refine lv_iload hx hb dL_law_1275 (lv_at hl 1 rfl) ?_
    refine lv_if_ne (tgt := 1292) hx hb dL_law_1277 (by decide) (fun c9 => ?_) (fun c9 => ?_)
    · have hf := (if_neg c9).mp hf
      exact hJ1292 S6 (bc - mc2) (bs - ms2) l1 l2 l3 l4 l5 hf H locs ls cells slots hH (lv_sub hl [2, 3, 4, 5, 6, 7] rfl) hB
    · have hf := (if_pos c9).mp hf
      refine lv_aload_n hx hb dL_law_1280 rfl (lv_at hl 5 rfl) ?_
      refine lv_iconst (v := 0) hx hb dL_law_1281 (by decide) ?_
      refine q_lald X hH hf dL_law_1282 (fun v10 hf => ?_)
      refine lv_iload hx hb dL_law_1283 (lv_at hl 0 rfl) ?_
      refine lv_i2l (v := v5.toInt64) hx hb dL_law_1285 rfl ?_
      refine W.lcmp hx hb dL_law_1286 ?_
      refine lv_if_eq (tgt := 1292) hx hb dL_law_1287 (by decide) (fun c11 => ?_) (fun c11 => ?_)
      · have hf := (if_pos c11).mp hf
        exact hJ1292 S6 (bc - mc2) (bs - ms2) l1 l2 l3 l4 l5 hf H locs ls cells slots hH (lv_sub hl [2, 3, 4, 5, 6, 7] rfl) hB
      · have hf := (if_neg c11).mp hf
        refine lv_iconst (v := 0) hx hb dL_law_1290 (by decide) ?_
        exact hf.elim
  · have hf := (if_neg c8).mp hf
    refine lv_iconst (v := 0) hx hb dL_law_1273 (by decide) ?_
    exact hf.elim
set_option maxHeartbeats 4000000 in
set_option maxRecDepth 100000 in
theorem jL_law_1295 {p : Program} {e : Env} {s : State} {m : MethodId} {below : List Frame} {meth : Method} {c : Code} (l : Launch) (D : va_G) (cy : Nat → ClassId) (G : p_GT) (hGC : ∀ (A : Nat → Prop) (U : State) (H : Heap), G A U H → gC A U H) (hst : l.stackTraces = false) (hGE : ∀ (A : Nat → Prop) (U : State) (H : Heap), G A U H → p_Ex A U H) (hGF : ∀ (A : Nat → Prop) (U : State) (H : Heap), G A U H → gF A U H) (adK adV : Nat → Nat) (hGK : ∀ (A : Nat → Prop) (U : State) (H : Heap), G A U H → gK adK adV A U H) (hGN : ∀ (A : Nat → Prop) (U : State) (H : Heap), G A U H → gN A U H) (hGO : ∀ (A : Nat → Prop) (U : State) (H : Heap), G A U H → va_AO "VillageFeud$Village" U) (dT dO : Nat) (hGT : ∀ (A : Nat → Prop) (U : State) (H : Heap), G A U H → gT dT dO A U H) (hGU : ∀ (A : Nat → Prop) (U : State) (H : Heap), G A U H → gU A U H) (A : Nat → Prop) (b L : Nat) (xs : Nat → Int32) (X : p_X p m c cL_law 9 s #[.ref b] RL D cy G A) (hr : meth.sig.returnType = ret) (hlk : meth.locks = false) (hX : va_X b L xs s s.heap) (hbl : b < s.heap.size) (hbA : ¬ A b) (hfree : ∀ q, A q → s.heap.size ≤ q) (g28 : PS → Nat → Nat → Nat → Nat → Nat → Nat → Int32 → Prop) (ih28 : ∀ (S : PS) (bc bs : Nat) (l1 : Nat) (l2 : Nat) (l3 : Nat) (l4 : Nat) (l5 : Int32), g28 S bc bs l1 l2 l3 l4 l5 → ∀ (H : Heap) (locs : List Loc) (ls : Array Slot) (cells slots : Nat), p_H D cy S A s H locs → lv_has ls 9 [(0, .ref b), (1, .ref l1), (2, .ref l2), (3, .ref l3), (4, .ref l4), (5, .int l5)] → cells + bc ≤ room_1.cells ∧ slots + bs ≤ room_1.slots → W p l e room_1 s m #[Value.ref b] below meth c H locs cells slots (lw_Z below #[Value.ref b] s) (F0 m 28 ls [])) : ∀ (S : PS) (bc bs : Nat) (l1 : Nat) (l2 : Nat) (l3 : Nat) (l4 : Nat) (l5 : Int32), f_L_law_J1295 adK L xs g28 S bc bs l1 l2 l3 l4 l5 → ∀ (H : Heap) (locs : List Loc) (ls : Array Slot) (cells slots : Nat), p_H D cy S A s H locs → lv_has ls 9 [(0, .ref b), (1, .ref l1), (2, .ref l2), (3, .ref l3), (4, .ref l4), (5, .int l5)] → cells + bc ≤ room_1.cells ∧ slots + bs ≤ room_1.slots → W p l e room_1 s m #[Value.ref b] below meth c H locs cells slots (lw_Z below #[Value.ref b] s) (F0 m 1295 ls []) := by
  have hx := X.1.1
  have hb := X.1.2.1
  have hJ2561 := jL_law_2561 l D cy G hGC hst hGE hGF adK adV hGK hGN hGO dT dO hGT hGU A b L xs X hr hlk hX hbl hbA hfree g28 ih28
  intro S bc bs l1 l2 l3 l4 l5 hf H locs ls cells slots hH hl hB
  have hJ1360 : ∀ (S : PS) (bc bs : Nat) (l1 : Nat) (l2 : Nat) (l3 : Nat) (l4 : Nat) (l5 : Int32), f_L_law_J1360 adK L xs g28 S bc bs l1 l2 l3 l4 l5 → ∀ (H : Heap) (locs : List Loc) (ls : Array Slot) (cells slots : Nat), p_H D cy S A s H locs → lv_has ls 9 [(0, .ref b), (1, .ref l1), (2, .ref l2), (3, .ref l3), (4, .ref l4), (5, .int l5)] → cells + bc ≤ room_1.cells ∧ slots + bs ≤ room_1.slots → W p l e room_1 s m [.ref b].toArray below meth c H locs cells slots (lw_Z below #[Value.ref b] s) (F0 m 1360 ls []) := by
    intro S bc bs l1 l2 l3 l4 l5 hf H locs ls cells slots hH hl hB
    refine lv_goto (tgt := 2561) hx hb dL_law_1360 (by decide) ?_
    exact hJ2561 S bc bs l1 l2 l3 l4 l5 hf H locs ls cells slots hH hl hB
  refine lv_aload_n hx hb dL_law_1295 rfl (lv_at hl 1 rfl) ?_
  refine lv_aload_n hx hb dL_law_1296 rfl (lv_at hl 0 rfl) ?_
  refine lv_iload hx hb dL_law_1297 (lv_at hl 5 rfl) ?_
  refine lv_iconst (v := 1) hx hb dL_law_1299 (by decide) ?_
  refine lv_iadd hx hb dL_law_1300 ?_
  refine va_sld hx hb hX hbl hbA hH.2.2 hf.1 dL_law_1301 ?_
  have hf := hf.2
  refine lv_aload_n hx hb dL_law_1302 rfl (lv_at hl 0 rfl) ?_
  refine lv_iload hx hb dL_law_1303 (lv_at hl 5 rfl) ?_
  refine lv_iconst (v := 2) hx hb dL_law_1305 (by decide) ?_
  refine lv_iadd hx hb dL_law_1306 ?_
  refine va_sld hx hb hX hbl hbA hH.2.2 hf.1 dL_law_1307 ?_
  have hf := hf.2
  refine lv_aload_n hx hb dL_law_1308 rfl (lv_at hl 3 rfl) ?_
  obtain ⟨mc2, ms2, hm1, hs1, hf⟩ := hf
  refine q_callXi X hH hB hm1 hs1 (q_runSx [.ref l1, .int (xs (l5 + 1).toNatClampNeg), .int (xs (l5 + 2).toNatClampNeg), .ref l3] [] X hH hl (c_L_between l D cy G X.2.2.2.1 hst hGE hGN S l1 (xs (l5 + 1).toNatClampNeg) (xs (l5 + 2).toNatClampNeg) l3 mc2 ms2 _ _ hf) mw_L_between tw_1235 tw_1234 ⟨Nat.le_of_ble_eq_true rfl, Nat.le_of_ble_eq_true rfl⟩ rfl (Nat.le_of_ble_eq_true rfl) dL_law_1309 ⟨Nat.le_trans (Nat.add_le_add_left hm1 _) hB.1, Nat.le_trans (Nat.add_le_add_left hs1 _) hB.2⟩) (fun _ _ _ _ hf _ _ _ _ _ _ _ _ _ => hf.elim) (fun v3 S1 hf H locs cells slots hH hB => ?_)
  refine lv_istore (lv' := [(6, .int v3), (0, .ref b), (1, .ref l1), (2, .ref l2), (3, .ref l3), (4, .ref l4), (5, .int l5)]) hx hb dL_law_1312 hl (by decide) rfl (fun ls hl => ?_)
  refine lv_aload_n hx hb dL_law_1314 rfl (lv_at hl 3 rfl) ?_
  refine lv_aload_n hx hb dL_law_1315 rfl (lv_at hl 1 rfl) ?_
  refine lv_iload hx hb dL_law_1316 (lv_at hl 6 rfl) ?_
  refine lv_iconst (v := 1) hx hb dL_law_1318 (by decide) ?_
  refine lv_iadd hx hb dL_law_1319 ?_
  refine va_sld hx hb hX hbl hbA hH.2.2 hf.1 dL_law_1320 ?_
  have hf := hf.2
  refine lv_aload_n hx hb dL_law_1321 rfl (lv_at hl 1 rfl) ?_
  refine lv_iload hx hb dL_law_1322 (lv_at hl 6 rfl) ?_
  refine lv_iconst (v := 2) hx hb dL_law_1324 (by decide) ?_
  refine lv_iadd hx hb dL_law_1325 ?_
  refine va_sld hx hb hX hbl hbA hH.2.2 hf.1 dL_law_1326 ?_
  have hf := hf.2
  obtain ⟨hb1, hb2, hf⟩ := hf
  refine q_backI0 X hH (q_runV [.int (xs (l5 + 1).toNatClampNeg), .int (xs (l5 + 2).toNatClampNeg)] [] X hH hl (c_X8_between l D cy G X.2.2.2.1 S1 l2 (xs (l5 + 1).toNatClampNeg) (xs (l5 + 2).toNatClampNeg) _ _ hf) mf_X8_between mv_X8_between tw_1889 ⟨Nat.le_of_ble_eq_true rfl, Nat.le_of_ble_eq_true rfl⟩ hb1 hb2 (T := TX8) (N := 25) rfl rfl (Nat.le_of_ble_eq_true rfl) dL_law_1327 ⟨Nat.le_trans (Nat.le_add_right _ _) hB.1, Nat.le_trans (Nat.le_add_right _ _) hB.2⟩) (fun v5 S4 hf H locs hH => ?_)
  refine lv_istore (lv' := [(7, .int v5), (6, .int v3), (0, .ref b), (1, .ref l1), (2, .ref l2), (3, .ref l3), (4, .ref l4), (5, .int l5)]) hx hb dL_law_1330 hl (by decide) rfl (fun ls hl => ?_)
  refine lv_aload_n hx hb dL_law_1332 rfl (lv_at hl 4 rfl) ?_
  obtain ⟨hb1, hb2, hf⟩ := hf
  refine q_backI0 X hH (q_runV [] [] X hH hl (c_X8_thrown l D cy G X.2.2.2.1 S4 l2 _ _ hf) mf_X8_thrown mv_X8_thrown tw_1686 ⟨Nat.le_of_ble_eq_true rfl, Nat.le_of_ble_eq_true rfl⟩ hb1 hb2 (T := TX8) (N := 25) rfl rfl (Nat.le_of_ble_eq_true rfl) dL_law_1333 ⟨Nat.le_trans (Nat.le_add_right _ _) hB.1, Nat.le_trans (Nat.le_add_right _ _) hB.2⟩) (fun v7 S6 hf H locs hH => ?_)
  refine lv_iload hx hb dL_law_1336 (lv_at hl 1 rfl) ?_
  refine lv_icmp_eq (tgt := 1343) hx hb dL_law_1338 (by decide) (fun c8 => ?_) (fun c8 => ?_)
  · have hf := (if_pos c8).mp hf
    refine lv_iload hx hb dL_law_1343 (lv_at hl 1 rfl) ?_
    refine lv_if_ne (tgt := 1360) hx hb dL_law_1345 (by decide) (fun c9 => ?_) (fun c9 => ?_)
    · have hf := (if_neg c9).mp hf
      exact hJ1360 S6 (bc - mc2) (bs - ms2) l1 l2 l3 l4 l5 hf H locs ls cells slots hH (lv_sub hl [2, 3, 4, 5, 6, 7] rfl) hB
    · have hf := (if_pos c9).mp hf
      refine lv_aload_n hx hb dL_law_1348 rfl (lv_at hl 5 rfl) ?_
      refine lv_iconst (v := 0) hx hb dL_law_1349 (by decide) ?_
      refine q_lald X hH hf dL_law_1350 (fun v10 hf => ?_)
      refine lv_iload hx hb dL_law_1351 (lv_at hl 0 rfl) ?_
      refine lv_i2l (v := v5.toInt64) hx hb dL_law_1353 rfl ?_
      refine W.lcmp hx hb dL_law_1354 ?_
      refine lv_if_eq (tgt := 1360) hx hb dL_law_1355 (by decide) (fun c11 => ?_) (fun c11 => ?_)
      · have hf := (if_pos c11).mp hf
        exact hJ1360 S6 (bc - mc2) (bs - ms2) l1 l2 l3 l4 l5 hf H locs ls cells slots hH (lv_sub hl [2, 3, 4, 5, 6, 7] rfl) hB
      · have hf := (if_neg c11).mp hf
        refine lv_iconst (v := 0) hx hb dL_law_1358 (by decide) ?_
        exact hf.elim
  · have hf := (if_neg c8).mp hf
    refine lv_iconst (v := 0) hx hb dL_law_1341 (by decide) ?_
    exact hf.elim
set_option maxHeartbeats 4000000 in
set_option maxRecDepth 100000 in
theorem jL_law_1363 {p : Program} {e : Env} {s : State} {m : MethodId} {below : List Frame} {meth : Method} {c : Code} (l : Launch) (D : va_G) (cy : Nat → ClassId) (G : p_GT) (hGC : ∀ (A : Nat → Prop) (U : State) (H : Heap), G A U H → gC A U H) (hst : l.stackTraces = false) (hGE : ∀ (A : Nat → Prop) (U : State) (H : Heap), G A U H → p_Ex A U H) (hGF : ∀ (A : Nat → Prop) (U : State) (H : Heap), G A U H → gF A U H) (adK adV : Nat → Nat) (hGK : ∀ (A : Nat → Prop) (U : State) (H : Heap), G A U H → gK adK adV A U H) (hGN : ∀ (A : Nat → Prop) (U : State) (H : Heap), G A U H → gN A U H) (hGO : ∀ (A : Nat → Prop) (U : State) (H : Heap), G A U H → va_AO "VillageFeud$Village" U) (dT dO : Nat) (hGT : ∀ (A : Nat → Prop) (U : State) (H : Heap), G A U H → gT dT dO A U H) (hGU : ∀ (A : Nat → Prop) (U : State) (H : Heap), G A U H → gU A U H) (A : Nat → Prop) (b L : Nat) (xs : Nat → Int32) (X : p_X p m c cL_law 9 s #[.ref b] RL D cy G A) (hr : meth.sig.returnType = ret) (hlk : meth.locks = false) (hX : va_X b L xs s s.heap) (hbl : b < s.heap.size) (hbA : ¬ A b) (hfree : ∀ q, A q → s.heap.size ≤ q) (g28 : PS → Nat → Nat → Nat → Nat → Nat → Nat → Int32 → Prop) (ih28 : ∀ (S : PS) (bc bs : Nat) (l1 : Nat) (l2 : Nat) (l3 : Nat) (l4 : Nat) (l5 : Int32), g28 S bc bs l1 l2 l3 l4 l5 → ∀ (H : Heap) (locs : List Loc) (ls : Array Slot) (cells slots : Nat), p_H D cy S A s H locs → lv_has ls 9 [(0, .ref b), (1, .ref l1), (2, .ref l2), (3, .ref l3), (4, .ref l4), (5, .int l5)] → cells + bc ≤ room_1.cells ∧ slots + bs ≤ room_1.slots → W p l e room_1 s m #[Value.ref b] below meth c H locs cells slots (lw_Z below #[Value.ref b] s) (F0 m 28 ls [])) : ∀ (S : PS) (bc bs : Nat) (l1 : Nat) (l2 : Nat) (l3 : Nat) (l4 : Nat) (l5 : Int32), f_L_law_J1363 adK L xs g28 S bc bs l1 l2 l3 l4 l5 → ∀ (H : Heap) (locs : List Loc) (ls : Array Slot) (cells slots : Nat), p_H D cy S A s H locs → lv_has ls 9 [(0, .ref b), (1, .ref l1), (2, .ref l2), (3, .ref l3), (4, .ref l4), (5, .int l5)] → cells + bc ≤ room_1.cells ∧ slots + bs ≤ room_1.slots → W p l e room_1 s m #[Value.ref b] below meth c H locs cells slots (lw_Z below #[Value.ref b] s) (F0 m 1363 ls []) := by
  have hx := X.1.1
  have hb := X.1.2.1
  have hJ2561 := jL_law_2561 l D cy G hGC hst hGE hGF adK adV hGK hGN hGO dT dO hGT hGU A b L xs X hr hlk hX hbl hbA hfree g28 ih28
  intro S bc bs l1 l2 l3 l4 l5 hf H locs ls cells slots hH hl hB
  have hJ1428 : ∀ (S : PS) (bc bs : Nat) (l1 : Nat) (l2 : Nat) (l3 : Nat) (l4 : Nat) (l5 : Int32), f_L_law_J1428 adK L xs g28 S bc bs l1 l2 l3 l4 l5 → ∀ (H : Heap) (locs : List Loc) (ls : Array Slot) (cells slots : Nat), p_H D cy S A s H locs → lv_has ls 9 [(0, .ref b), (1, .ref l1), (2, .ref l2), (3, .ref l3), (4, .ref l4), (5, .int l5)] → cells + bc ≤ room_1.cells ∧ slots + bs ≤ room_1.slots → W p l e room_1 s m [.ref b].toArray below meth c H locs cells slots (lw_Z below #[Value.ref b] s) (F0 m 1428 ls []) := by
    intro S bc bs l1 l2 l3 l4 l5 hf H locs ls cells slots hH hl hB
    refine lv_goto (tgt := 2561) hx hb dL_law_1428 (by decide) ?_
    exact hJ2561 S bc bs l1 l2 l3 l4 l5 hf H locs ls cells slots hH hl hB
  refine lv_aload_n hx hb dL_law_1363 rfl (lv_at hl 1 rfl) ?_
  refine lv_aload_n hx hb dL_law_1364 rfl (lv_at hl 0 rfl) ?_
  refine lv_iload hx hb dL_law_1365 (lv_at hl 5 rfl) ?_
  refine lv_iconst (v := 1) hx hb dL_law_1367 (by decide) ?_
  refine lv_iadd hx hb dL_law_1368 ?_
  refine va_sld hx hb hX hbl hbA hH.2.2 hf.1 dL_law_1369 ?_
  have hf := hf.2
  refine lv_aload_n hx hb dL_law_1370 rfl (lv_at hl 0 rfl) ?_
  refine lv_iload hx hb dL_law_1371 (lv_at hl 5 rfl) ?_
  refine lv_iconst (v := 2) hx hb dL_law_1373 (by decide) ?_
  refine lv_iadd hx hb dL_law_1374 ?_
  refine va_sld hx hb hX hbl hbA hH.2.2 hf.1 dL_law_1375 ?_
  have hf := hf.2
  refine lv_aload_n hx hb dL_law_1376 rfl (lv_at hl 3 rfl) ?_
  obtain ⟨mc2, ms2, hm1, hs1, hf⟩ := hf
  refine q_callXi X hH hB hm1 hs1 (q_runSx [.ref l1, .int (xs (l5 + 1).toNatClampNeg), .int (xs (l5 + 2).toNatClampNeg), .ref l3] [] X hH hl (c_L_betweenAgain l D cy G X.2.2.2.1 hst hGE hGN S l1 (xs (l5 + 1).toNatClampNeg) (xs (l5 + 2).toNatClampNeg) l3 mc2 ms2 _ _ hf) mw_L_betweenAgain tw_1243 tw_1242 ⟨Nat.le_of_ble_eq_true rfl, Nat.le_of_ble_eq_true rfl⟩ rfl (Nat.le_of_ble_eq_true rfl) dL_law_1377 ⟨Nat.le_trans (Nat.add_le_add_left hm1 _) hB.1, Nat.le_trans (Nat.add_le_add_left hs1 _) hB.2⟩) (fun _ _ _ _ hf _ _ _ _ _ _ _ _ _ => hf.elim) (fun v3 S1 hf H locs cells slots hH hB => ?_)
  refine lv_istore (lv' := [(6, .int v3), (0, .ref b), (1, .ref l1), (2, .ref l2), (3, .ref l3), (4, .ref l4), (5, .int l5)]) hx hb dL_law_1380 hl (by decide) rfl (fun ls hl => ?_)
  refine lv_aload_n hx hb dL_law_1382 rfl (lv_at hl 3 rfl) ?_
  refine lv_aload_n hx hb dL_law_1383 rfl (lv_at hl 1 rfl) ?_
  refine lv_iload hx hb dL_law_1384 (lv_at hl 6 rfl) ?_
  refine lv_iconst (v := 1) hx hb dL_law_1386 (by decide) ?_
  refine lv_iadd hx hb dL_law_1387 ?_
  refine va_sld hx hb hX hbl hbA hH.2.2 hf.1 dL_law_1388 ?_
  have hf := hf.2
  refine lv_aload_n hx hb dL_law_1389 rfl (lv_at hl 1 rfl) ?_
  refine lv_iload hx hb dL_law_1390 (lv_at hl 6 rfl) ?_
  refine lv_iconst (v := 2) hx hb dL_law_1392 (by decide) ?_
  refine lv_iadd hx hb dL_law_1393 ?_
  refine va_sld hx hb hX hbl hbA hH.2.2 hf.1 dL_law_1394 ?_
  have hf := hf.2
  obtain ⟨hb1, hb2, hf⟩ := hf
  refine q_backI0 X hH (q_runV [.int (xs (l5 + 1).toNatClampNeg), .int (xs (l5 + 2).toNatClampNeg)] [] X hH hl (c_X8_betweenAgain l D cy G X.2.2.2.1 S1 l2 (xs (l5 + 1).toNatClampNeg) (xs (l5 + 2).toNatClampNeg) _ _ hf) mf_X8_betweenAgain mv_X8_betweenAgain tw_1897 ⟨Nat.le_of_ble_eq_true rfl, Nat.le_of_ble_eq_true rfl⟩ hb1 hb2 (T := TX8) (N := 25) rfl rfl (Nat.le_of_ble_eq_true rfl) dL_law_1395 ⟨Nat.le_trans (Nat.le_add_right _ _) hB.1, Nat.le_trans (Nat.le_add_right _ _) hB.2⟩) (fun v5 S4 hf H locs hH => ?_)
  refine lv_istore (lv' := [(7, .int v5), (6, .int v3), (0, .ref b), (1, .ref l1), (2, .ref l2), (3, .ref l3), (4, .ref l4), (5, .int l5)]) hx hb dL_law_1398 hl (by decide) rfl (fun ls hl => ?_)
  refine lv_aload_n hx hb dL_law_1400 rfl (lv_at hl 4 rfl) ?_
  obtain ⟨hb1, hb2, hf⟩ := hf
  refine q_backI0 X hH (q_runV [] [] X hH hl (c_X8_thrown l D cy G X.2.2.2.1 S4 l2 _ _ hf) mf_X8_thrown mv_X8_thrown tw_1686 ⟨Nat.le_of_ble_eq_true rfl, Nat.le_of_ble_eq_true rfl⟩ hb1 hb2 (T := TX8) (N := 25) rfl rfl (Nat.le_of_ble_eq_true rfl) dL_law_1401 ⟨Nat.le_trans (Nat.le_add_right _ _) hB.1, Nat.le_trans (Nat.le_add_right _ _) hB.2⟩) (fun v7 S6 hf H locs hH => ?_)
  refine lv_iload hx hb dL_law_1404 (lv_at hl 1 rfl) ?_
  refine lv_icmp_eq (tgt := 1411) hx hb dL_law_1406 (by decide) (fun c8 => ?_) (fun c8 => ?_)
  · have hf := (if_pos c8).mp hf
    refine lv_iload hx hb dL_law_1411 (lv_at hl 1 rfl) ?_
    refine lv_if_ne (tgt := 1428) hx hb dL_law_1413 (by decide) (fun c9 => ?_) (fun c9 => ?_)
    · have hf := (if_neg c9).mp hf
      exact hJ1428 S6 (bc - mc2) (bs - ms2) l1 l2 l3 l4 l5 hf H locs ls cells slots hH (lv_sub hl [2, 3, 4, 5, 6, 7] rfl) hB
    · have hf := (if_pos c9).mp hf
      refine lv_aload_n hx hb dL_law_1416 rfl (lv_at hl 5 rfl) ?_
      refine lv_iconst (v := 0) hx hb dL_law_1417 (by decide) ?_
      refine q_lald X hH hf dL_law_1418 (fun v10 hf => ?_)
      refine lv_iload hx hb dL_law_1419 (lv_at hl 0 rfl) ?_
      refine lv_i2l (v := v5.toInt64) hx hb dL_law_1421 rfl ?_
      refine W.lcmp hx hb dL_law_1422 ?_
      refine lv_if_eq (tgt := 1428) hx hb dL_law_1423 (by decide) (fun c11 => ?_) (fun c11 => ?_)
      · have hf := (if_pos c11).mp hf
        exact hJ1428 S6 (bc - mc2) (bs - ms2) l1 l2 l3 l4 l5 hf H locs ls cells slots hH (lv_sub hl [2, 3, 4, 5, 6, 7] rfl) hB
      · have hf := (if_neg c11).mp hf
        refine lv_iconst (v := 0) hx hb dL_law_1426 (by decide) ?_
        exact hf.elim
  · have hf := (if_neg c8).mp hf
    refine lv_iconst (v := 0) hx hb dL_law_1409 (by decide) ?_
    exact hf.elim
set_option maxHeartbeats 4000000 in
set_option maxRecDepth 100000 in
theorem jL_law_1431 {p : Program} {e : Env} {s : State} {m : MethodId} {below : List Frame} {meth : Method} {c : Code} (l : Launch) (D : va_G) (cy : Nat → ClassId) (G : p_GT) (hGC : ∀ (A : Nat → Prop) (U : State) (H : Heap), G A U H → gC A U H) (hst : l.stackTraces = false) (hGE : ∀ (A : Nat → Prop) (U : State) (H : Heap), G A U H → p_Ex A U H) (hGF : ∀ (A : Nat → Prop) (U : State) (H : Heap), G A U H → gF A U H) (adK adV : Nat → Nat) (hGK : ∀ (A : Nat → Prop) (U : State) (H : Heap), G A U H → gK adK adV A U H) (hGN : ∀ (A : Nat → Prop) (U : State) (H : Heap), G A U H → gN A U H) (hGO : ∀ (A : Nat → Prop) (U : State) (H : Heap), G A U H → va_AO "VillageFeud$Village" U) (dT dO : Nat) (hGT : ∀ (A : Nat → Prop) (U : State) (H : Heap), G A U H → gT dT dO A U H) (hGU : ∀ (A : Nat → Prop) (U : State) (H : Heap), G A U H → gU A U H) (A : Nat → Prop) (b L : Nat) (xs : Nat → Int32) (X : p_X p m c cL_law 9 s #[.ref b] RL D cy G A) (hr : meth.sig.returnType = ret) (hlk : meth.locks = false) (hX : va_X b L xs s s.heap) (hbl : b < s.heap.size) (hbA : ¬ A b) (hfree : ∀ q, A q → s.heap.size ≤ q) (g28 : PS → Nat → Nat → Nat → Nat → Nat → Nat → Int32 → Prop) (ih28 : ∀ (S : PS) (bc bs : Nat) (l1 : Nat) (l2 : Nat) (l3 : Nat) (l4 : Nat) (l5 : Int32), g28 S bc bs l1 l2 l3 l4 l5 → ∀ (H : Heap) (locs : List Loc) (ls : Array Slot) (cells slots : Nat), p_H D cy S A s H locs → lv_has ls 9 [(0, .ref b), (1, .ref l1), (2, .ref l2), (3, .ref l3), (4, .ref l4), (5, .int l5)] → cells + bc ≤ room_1.cells ∧ slots + bs ≤ room_1.slots → W p l e room_1 s m #[Value.ref b] below meth c H locs cells slots (lw_Z below #[Value.ref b] s) (F0 m 28 ls [])) : ∀ (S : PS) (bc bs : Nat) (l1 : Nat) (l2 : Nat) (l3 : Nat) (l4 : Nat) (l5 : Int32), f_L_law_J1431 adK L xs g28 S bc bs l1 l2 l3 l4 l5 → ∀ (H : Heap) (locs : List Loc) (ls : Array Slot) (cells slots : Nat), p_H D cy S A s H locs → lv_has ls 9 [(0, .ref b), (1, .ref l1), (2, .ref l2), (3, .ref l3), (4, .ref l4), (5, .int l5)] → cells + bc ≤ room_1.cells ∧ slots + bs ≤ room_1.slots → W p l e room_1 s m #[Value.ref b] below meth c H locs cells slots (lw_Z below #[Value.ref b] s) (F0 m 1431 ls []) := by
  have hx := X.1.1
  have hb := X.1.2.1
  have hJ2561 := jL_law_2561 l D cy G hGC hst hGE hGF adK adV hGK hGN hGO dT dO hGT hGU A b L xs X hr hlk hX hbl hbA hfree g28 ih28
  intro S bc bs l1 l2 l3 l4 l5 hf H locs ls cells slots hH hl hB
  have hJ1472 : ∀ (S : PS) (bc bs : Nat) (l1 : Nat) (l2 : Nat) (l3 : Nat) (l4 : Nat) (l5 : Int32), f_L_law_J1472 adK L xs g28 S bc bs l1 l2 l3 l4 l5 → ∀ (H : Heap) (locs : List Loc) (ls : Array Slot) (cells slots : Nat), p_H D cy S A s H locs → lv_has ls 9 [(0, .ref b), (1, .ref l1), (2, .ref l2), (3, .ref l3), (4, .ref l4), (5, .int l5)] → cells + bc ≤ room_1.cells ∧ slots + bs ≤ room_1.slots → W p l e room_1 s m [.ref b].toArray below meth c H locs cells slots (lw_Z below #[Value.ref b] s) (F0 m 1472 ls []) := by
    intro S bc bs l1 l2 l3 l4 l5 hf H locs ls cells slots hH hl hB
    refine lv_goto (tgt := 2561) hx hb dL_law_1472 (by decide) ?_
    exact hJ2561 S bc bs l1 l2 l3 l4 l5 hf H locs ls cells slots hH hl hB
  refine lv_aload_n hx hb dL_law_1431 rfl (lv_at hl 1 rfl) ?_
  refine lv_aload_n hx hb dL_law_1432 rfl (lv_at hl 3 rfl) ?_
  obtain ⟨mc2, ms2, hm1, hs1, hf⟩ := hf
  refine q_callXi X hH hB hm1 hs1 (q_runSx [.ref l1, .ref l3] [] X hH hl (c_L_bestMove l D cy G X.2.2.2.1 hst hGE S l1 l3 mc2 ms2 _ _ hf) mw_L_bestMove tw_1250 tw_1249 ⟨Nat.le_of_ble_eq_true rfl, Nat.le_of_ble_eq_true rfl⟩ rfl (Nat.le_of_ble_eq_true rfl) dL_law_1433 ⟨Nat.le_trans (Nat.add_le_add_left hm1 _) hB.1, Nat.le_trans (Nat.add_le_add_left hs1 _) hB.2⟩) (fun _ _ _ _ hf _ _ _ _ _ _ _ _ _ => hf.elim) (fun v3 S1 hf H locs cells slots hH hB => ?_)
  refine lv_istore (lv' := [(6, .int v3), (0, .ref b), (1, .ref l1), (2, .ref l2), (3, .ref l3), (4, .ref l4), (5, .int l5)]) hx hb dL_law_1436 hl (by decide) rfl (fun ls hl => ?_)
  refine lv_aload_n hx hb dL_law_1438 rfl (lv_at hl 3 rfl) ?_
  obtain ⟨hb1, hb2, hf⟩ := hf
  refine q_backI0 X hH (q_runV [] [] X hH hl (c_X8_bestMove l D cy G X.2.2.2.1 S1 l2 _ _ hf) mf_X8_bestMove mv_X8_bestMove tw_1939 ⟨Nat.le_of_ble_eq_true rfl, Nat.le_of_ble_eq_true rfl⟩ hb1 hb2 (T := TX8) (N := 25) rfl rfl (Nat.le_of_ble_eq_true rfl) dL_law_1439 ⟨Nat.le_trans (Nat.le_add_right _ _) hB.1, Nat.le_trans (Nat.le_add_right _ _) hB.2⟩) (fun v5 S4 hf H locs hH => ?_)
  refine lv_istore (lv' := [(7, .int v5), (6, .int v3), (0, .ref b), (1, .ref l1), (2, .ref l2), (3, .ref l3), (4, .ref l4), (5, .int l5)]) hx hb dL_law_1442 hl (by decide) rfl (fun ls hl => ?_)
  refine lv_aload_n hx hb dL_law_1444 rfl (lv_at hl 4 rfl) ?_
  obtain ⟨hb1, hb2, hf⟩ := hf
  refine q_backI0 X hH (q_runV [] [] X hH hl (c_X8_thrown l D cy G X.2.2.2.1 S4 l2 _ _ hf) mf_X8_thrown mv_X8_thrown tw_1686 ⟨Nat.le_of_ble_eq_true rfl, Nat.le_of_ble_eq_true rfl⟩ hb1 hb2 (T := TX8) (N := 25) rfl rfl (Nat.le_of_ble_eq_true rfl) dL_law_1445 ⟨Nat.le_trans (Nat.le_add_right _ _) hB.1, Nat.le_trans (Nat.le_add_right _ _) hB.2⟩) (fun v7 S6 hf H locs hH => ?_)
  refine lv_iload hx hb dL_law_1448 (lv_at hl 1 rfl) ?_
  refine lv_icmp_eq (tgt := 1455) hx hb dL_law_1450 (by decide) (fun c8 => ?_) (fun c8 => ?_)
  · have hf := (if_pos c8).mp hf
    refine lv_iload hx hb dL_law_1455 (lv_at hl 1 rfl) ?_
    refine lv_if_ne (tgt := 1472) hx hb dL_law_1457 (by decide) (fun c9 => ?_) (fun c9 => ?_)
    · have hf := (if_neg c9).mp hf
      exact hJ1472 S6 (bc - mc2) (bs - ms2) l1 l2 l3 l4 l5 hf H locs ls cells slots hH (lv_sub hl [2, 3, 4, 5, 6, 7] rfl) hB
    · have hf := (if_pos c9).mp hf
      refine lv_aload_n hx hb dL_law_1460 rfl (lv_at hl 5 rfl) ?_
      refine lv_iconst (v := 0) hx hb dL_law_1461 (by decide) ?_
      refine q_lald X hH hf dL_law_1462 (fun v10 hf => ?_)
      refine lv_iload hx hb dL_law_1463 (lv_at hl 0 rfl) ?_
      refine lv_i2l (v := v5.toInt64) hx hb dL_law_1465 rfl ?_
      refine W.lcmp hx hb dL_law_1466 ?_
      refine lv_if_eq (tgt := 1472) hx hb dL_law_1467 (by decide) (fun c11 => ?_) (fun c11 => ?_)
      · have hf := (if_pos c11).mp hf
        exact hJ1472 S6 (bc - mc2) (bs - ms2) l1 l2 l3 l4 l5 hf H locs ls cells slots hH (lv_sub hl [2, 3, 4, 5, 6, 7] rfl) hB
      · have hf := (if_neg c11).mp hf
        refine lv_iconst (v := 0) hx hb dL_law_1470 (by decide) ?_
        exact hf.elim
  · have hf := (if_neg c8).mp hf
    refine lv_iconst (v := 0) hx hb dL_law_1453 (by decide) ?_
    exact hf.elim
set_option maxHeartbeats 4000000 in
set_option maxRecDepth 100000 in
theorem jL_law_1475 {p : Program} {e : Env} {s : State} {m : MethodId} {below : List Frame} {meth : Method} {c : Code} (l : Launch) (D : va_G) (cy : Nat → ClassId) (G : p_GT) (hGC : ∀ (A : Nat → Prop) (U : State) (H : Heap), G A U H → gC A U H) (hst : l.stackTraces = false) (hGE : ∀ (A : Nat → Prop) (U : State) (H : Heap), G A U H → p_Ex A U H) (hGF : ∀ (A : Nat → Prop) (U : State) (H : Heap), G A U H → gF A U H) (adK adV : Nat → Nat) (hGK : ∀ (A : Nat → Prop) (U : State) (H : Heap), G A U H → gK adK adV A U H) (hGN : ∀ (A : Nat → Prop) (U : State) (H : Heap), G A U H → gN A U H) (hGO : ∀ (A : Nat → Prop) (U : State) (H : Heap), G A U H → va_AO "VillageFeud$Village" U) (dT dO : Nat) (hGT : ∀ (A : Nat → Prop) (U : State) (H : Heap), G A U H → gT dT dO A U H) (hGU : ∀ (A : Nat → Prop) (U : State) (H : Heap), G A U H → gU A U H) (A : Nat → Prop) (b L : Nat) (xs : Nat → Int32) (X : p_X p m c cL_law 9 s #[.ref b] RL D cy G A) (hr : meth.sig.returnType = ret) (hlk : meth.locks = false) (hX : va_X b L xs s s.heap) (hbl : b < s.heap.size) (hbA : ¬ A b) (hfree : ∀ q, A q → s.heap.size ≤ q) (g28 : PS → Nat → Nat → Nat → Nat → Nat → Nat → Int32 → Prop) (ih28 : ∀ (S : PS) (bc bs : Nat) (l1 : Nat) (l2 : Nat) (l3 : Nat) (l4 : Nat) (l5 : Int32), g28 S bc bs l1 l2 l3 l4 l5 → ∀ (H : Heap) (locs : List Loc) (ls : Array Slot) (cells slots : Nat), p_H D cy S A s H locs → lv_has ls 9 [(0, .ref b), (1, .ref l1), (2, .ref l2), (3, .ref l3), (4, .ref l4), (5, .int l5)] → cells + bc ≤ room_1.cells ∧ slots + bs ≤ room_1.slots → W p l e room_1 s m #[Value.ref b] below meth c H locs cells slots (lw_Z below #[Value.ref b] s) (F0 m 28 ls [])) : ∀ (S : PS) (bc bs : Nat) (l1 : Nat) (l2 : Nat) (l3 : Nat) (l4 : Nat) (l5 : Int32), f_L_law_J1475 adK L xs g28 S bc bs l1 l2 l3 l4 l5 → ∀ (H : Heap) (locs : List Loc) (ls : Array Slot) (cells slots : Nat), p_H D cy S A s H locs → lv_has ls 9 [(0, .ref b), (1, .ref l1), (2, .ref l2), (3, .ref l3), (4, .ref l4), (5, .int l5)] → cells + bc ≤ room_1.cells ∧ slots + bs ≤ room_1.slots → W p l e room_1 s m #[Value.ref b] below meth c H locs cells slots (lw_Z below #[Value.ref b] s) (F0 m 1475 ls []) := by
  have hx := X.1.1
  have hb := X.1.2.1
  have hJ2561 := jL_law_2561 l D cy G hGC hst hGE hGF adK adV hGK hGN hGO dT dO hGT hGU A b L xs X hr hlk hX hbl hbA hfree g28 ih28
  intro S bc bs l1 l2 l3 l4 l5 hf H locs ls cells slots hH hl hB
  have hJ1528 : ∀ (S : PS) (bc bs : Nat) (l1 : Nat) (l2 : Nat) (l3 : Nat) (l4 : Nat) (l5 : Int32), f_L_law_J1528 adK L xs g28 S bc bs l1 l2 l3 l4 l5 → ∀ (H : Heap) (locs : List Loc) (ls : Array Slot) (cells slots : Nat), p_H D cy S A s H locs → lv_has ls 9 [(0, .ref b), (1, .ref l1), (2, .ref l2), (3, .ref l3), (4, .ref l4), (5, .int l5)] → cells + bc ≤ room_1.cells ∧ slots + bs ≤ room_1.slots → W p l e room_1 s m [.ref b].toArray below meth c H locs cells slots (lw_Z below #[Value.ref b] s) (F0 m 1528 ls []) := by
    intro S bc bs l1 l2 l3 l4 l5 hf H locs ls cells slots hH hl hB
    refine lv_goto (tgt := 2561) hx hb dL_law_1528 (by decide) ?_
    exact hJ2561 S bc bs l1 l2 l3 l4 l5 hf H locs ls cells slots hH hl hB
  refine lv_aload_n hx hb dL_law_1475 rfl (lv_at hl 1 rfl) ?_
  refine lv_aload_n hx hb dL_law_1476 rfl (lv_at hl 0 rfl) ?_
  refine lv_iload hx hb dL_law_1477 (lv_at hl 5 rfl) ?_
  refine lv_iconst (v := 1) hx hb dL_law_1479 (by decide) ?_
  refine lv_iadd hx hb dL_law_1480 ?_
  refine va_sld hx hb hX hbl hbA hH.2.2 hf.1 dL_law_1481 ?_
  have hf := hf.2
  refine lv_aload_n hx hb dL_law_1482 rfl (lv_at hl 3 rfl) ?_
  obtain ⟨mc2, ms2, hm1, hs1, hf⟩ := hf
  refine q_callXi X hH hB hm1 hs1 (q_runSx [.ref l1, .int (xs (l5 + 1).toNatClampNeg), .ref l3] [] X hH hl (c_L_ifMoved l D cy G X.2.2.2.1 hst hGE S l1 (xs (l5 + 1).toNatClampNeg) l3 mc2 ms2 _ _ hf) mw_L_ifMoved tw_1263 tw_1262 ⟨Nat.le_of_ble_eq_true rfl, Nat.le_of_ble_eq_true rfl⟩ rfl (Nat.le_of_ble_eq_true rfl) dL_law_1483 ⟨Nat.le_trans (Nat.add_le_add_left hm1 _) hB.1, Nat.le_trans (Nat.add_le_add_left hs1 _) hB.2⟩) (fun _ _ _ _ hf _ _ _ _ _ _ _ _ _ => hf.elim) (fun v3 S1 hf H locs cells slots hH hB => ?_)
  refine lv_istore (lv' := [(6, .int v3), (0, .ref b), (1, .ref l1), (2, .ref l2), (3, .ref l3), (4, .ref l4), (5, .int l5)]) hx hb dL_law_1486 hl (by decide) rfl (fun ls hl => ?_)
  refine lv_aload_n hx hb dL_law_1488 rfl (lv_at hl 3 rfl) ?_
  refine lv_aload_n hx hb dL_law_1489 rfl (lv_at hl 1 rfl) ?_
  refine lv_iload hx hb dL_law_1490 (lv_at hl 6 rfl) ?_
  refine lv_iconst (v := 1) hx hb dL_law_1492 (by decide) ?_
  refine lv_iadd hx hb dL_law_1493 ?_
  refine va_sld hx hb hX hbl hbA hH.2.2 hf.1 dL_law_1494 ?_
  have hf := hf.2
  obtain ⟨hb1, hb2, hf⟩ := hf
  refine q_backI0 X hH (q_runV [.int (xs (l5 + 1).toNatClampNeg)] [] X hH hl (c_X8_ifMoved l D cy G X.2.2.2.1 S1 l2 (xs (l5 + 1).toNatClampNeg) _ _ hf) mf_X8_ifMoved mv_X8_ifMoved tw_1935 ⟨Nat.le_of_ble_eq_true rfl, Nat.le_of_ble_eq_true rfl⟩ hb1 hb2 (T := TX8) (N := 25) rfl rfl (Nat.le_of_ble_eq_true rfl) dL_law_1495 ⟨Nat.le_trans (Nat.le_add_right _ _) hB.1, Nat.le_trans (Nat.le_add_right _ _) hB.2⟩) (fun v5 S4 hf H locs hH => ?_)
  refine lv_istore (lv' := [(7, .int v5), (6, .int v3), (0, .ref b), (1, .ref l1), (2, .ref l2), (3, .ref l3), (4, .ref l4), (5, .int l5)]) hx hb dL_law_1498 hl (by decide) rfl (fun ls hl => ?_)
  refine lv_aload_n hx hb dL_law_1500 rfl (lv_at hl 4 rfl) ?_
  obtain ⟨hb1, hb2, hf⟩ := hf
  refine q_backI0 X hH (q_runV [] [] X hH hl (c_X8_thrown l D cy G X.2.2.2.1 S4 l2 _ _ hf) mf_X8_thrown mv_X8_thrown tw_1686 ⟨Nat.le_of_ble_eq_true rfl, Nat.le_of_ble_eq_true rfl⟩ hb1 hb2 (T := TX8) (N := 25) rfl rfl (Nat.le_of_ble_eq_true rfl) dL_law_1501 ⟨Nat.le_trans (Nat.le_add_right _ _) hB.1, Nat.le_trans (Nat.le_add_right _ _) hB.2⟩) (fun v7 S6 hf H locs hH => ?_)
  refine lv_iload hx hb dL_law_1504 (lv_at hl 1 rfl) ?_
  refine lv_icmp_eq (tgt := 1511) hx hb dL_law_1506 (by decide) (fun c8 => ?_) (fun c8 => ?_)
  · have hf := (if_pos c8).mp hf
    refine lv_iload hx hb dL_law_1511 (lv_at hl 1 rfl) ?_
    refine lv_if_ne (tgt := 1528) hx hb dL_law_1513 (by decide) (fun c9 => ?_) (fun c9 => ?_)
    · have hf := (if_neg c9).mp hf
      exact hJ1528 S6 (bc - mc2) (bs - ms2) l1 l2 l3 l4 l5 hf H locs ls cells slots hH (lv_sub hl [2, 3, 4, 5, 6, 7] rfl) hB
    · have hf := (if_pos c9).mp hf
      refine lv_aload_n hx hb dL_law_1516 rfl (lv_at hl 5 rfl) ?_
      refine lv_iconst (v := 0) hx hb dL_law_1517 (by decide) ?_
      refine q_lald X hH hf dL_law_1518 (fun v10 hf => ?_)
      refine lv_iload hx hb dL_law_1519 (lv_at hl 0 rfl) ?_
      refine lv_i2l (v := v5.toInt64) hx hb dL_law_1521 rfl ?_
      refine W.lcmp hx hb dL_law_1522 ?_
      refine lv_if_eq (tgt := 1528) hx hb dL_law_1523 (by decide) (fun c11 => ?_) (fun c11 => ?_)
      · have hf := (if_pos c11).mp hf
        exact hJ1528 S6 (bc - mc2) (bs - ms2) l1 l2 l3 l4 l5 hf H locs ls cells slots hH (lv_sub hl [2, 3, 4, 5, 6, 7] rfl) hB
      · have hf := (if_neg c11).mp hf
        refine lv_iconst (v := 0) hx hb dL_law_1526 (by decide) ?_
        exact hf.elim
  · have hf := (if_neg c8).mp hf
    refine lv_iconst (v := 0) hx hb dL_law_1509 (by decide) ?_
    exact hf.elim
set_option maxHeartbeats 4000000 in
set_option maxRecDepth 100000 in
theorem jL_law_1531 {p : Program} {e : Env} {s : State} {m : MethodId} {below : List Frame} {meth : Method} {c : Code} (l : Launch) (D : va_G) (cy : Nat → ClassId) (G : p_GT) (hGC : ∀ (A : Nat → Prop) (U : State) (H : Heap), G A U H → gC A U H) (hst : l.stackTraces = false) (hGE : ∀ (A : Nat → Prop) (U : State) (H : Heap), G A U H → p_Ex A U H) (hGF : ∀ (A : Nat → Prop) (U : State) (H : Heap), G A U H → gF A U H) (adK adV : Nat → Nat) (hGK : ∀ (A : Nat → Prop) (U : State) (H : Heap), G A U H → gK adK adV A U H) (hGN : ∀ (A : Nat → Prop) (U : State) (H : Heap), G A U H → gN A U H) (hGO : ∀ (A : Nat → Prop) (U : State) (H : Heap), G A U H → va_AO "VillageFeud$Village" U) (dT dO : Nat) (hGT : ∀ (A : Nat → Prop) (U : State) (H : Heap), G A U H → gT dT dO A U H) (hGU : ∀ (A : Nat → Prop) (U : State) (H : Heap), G A U H → gU A U H) (A : Nat → Prop) (b L : Nat) (xs : Nat → Int32) (X : p_X p m c cL_law 9 s #[.ref b] RL D cy G A) (hr : meth.sig.returnType = ret) (hlk : meth.locks = false) (hX : va_X b L xs s s.heap) (hbl : b < s.heap.size) (hbA : ¬ A b) (hfree : ∀ q, A q → s.heap.size ≤ q) (g28 : PS → Nat → Nat → Nat → Nat → Nat → Nat → Int32 → Prop) (ih28 : ∀ (S : PS) (bc bs : Nat) (l1 : Nat) (l2 : Nat) (l3 : Nat) (l4 : Nat) (l5 : Int32), g28 S bc bs l1 l2 l3 l4 l5 → ∀ (H : Heap) (locs : List Loc) (ls : Array Slot) (cells slots : Nat), p_H D cy S A s H locs → lv_has ls 9 [(0, .ref b), (1, .ref l1), (2, .ref l2), (3, .ref l3), (4, .ref l4), (5, .int l5)] → cells + bc ≤ room_1.cells ∧ slots + bs ≤ room_1.slots → W p l e room_1 s m #[Value.ref b] below meth c H locs cells slots (lw_Z below #[Value.ref b] s) (F0 m 28 ls [])) : ∀ (S : PS) (bc bs : Nat) (l1 : Nat) (l2 : Nat) (l3 : Nat) (l4 : Nat) (l5 : Int32), f_L_law_J1531 adK L xs g28 S bc bs l1 l2 l3 l4 l5 → ∀ (H : Heap) (locs : List Loc) (ls : Array Slot) (cells slots : Nat), p_H D cy S A s H locs → lv_has ls 9 [(0, .ref b), (1, .ref l1), (2, .ref l2), (3, .ref l3), (4, .ref l4), (5, .int l5)] → cells + bc ≤ room_1.cells ∧ slots + bs ≤ room_1.slots → W p l e room_1 s m #[Value.ref b] below meth c H locs cells slots (lw_Z below #[Value.ref b] s) (F0 m 1531 ls []) := by
  have hx := X.1.1
  have hb := X.1.2.1
  have hJ2561 := jL_law_2561 l D cy G hGC hst hGE hGF adK adV hGK hGN hGO dT dO hGT hGU A b L xs X hr hlk hX hbl hbA hfree g28 ih28
  intro S bc bs l1 l2 l3 l4 l5 hf H locs ls cells slots hH hl hB
  have hJ1608 : ∀ (S : PS) (bc bs : Nat) (l1 : Nat) (l2 : Nat) (l3 : Nat) (l4 : Nat) (l5 : Int32), f_L_law_J1608 adK L xs g28 S bc bs l1 l2 l3 l4 l5 → ∀ (H : Heap) (locs : List Loc) (ls : Array Slot) (cells slots : Nat), p_H D cy S A s H locs → lv_has ls 9 [(0, .ref b), (1, .ref l1), (2, .ref l2), (3, .ref l3), (4, .ref l4), (5, .int l5)] → cells + bc ≤ room_1.cells ∧ slots + bs ≤ room_1.slots → W p l e room_1 s m [.ref b].toArray below meth c H locs cells slots (lw_Z below #[Value.ref b] s) (F0 m 1608 ls []) := by
    intro S bc bs l1 l2 l3 l4 l5 hf H locs ls cells slots hH hl hB
    refine lv_goto (tgt := 2561) hx hb dL_law_1608 (by decide) ?_
    exact hJ2561 S bc bs l1 l2 l3 l4 l5 hf H locs ls cells slots hH hl hB
  refine lv_aload_n hx hb dL_law_1531 rfl (lv_at hl 1 rfl) ?_
  refine lv_aload_n hx hb dL_law_1532 rfl (lv_at hl 0 rfl) ?_
  refine lv_iload hx hb dL_law_1533 (lv_at hl 5 rfl) ?_
  refine lv_iconst (v := 1) hx hb dL_law_1535 (by decide) ?_
  refine lv_iadd hx hb dL_law_1536 ?_
  refine va_sld hx hb hX hbl hbA hH.2.2 hf.1 dL_law_1537 ?_
  have hf := hf.2
  refine lv_aload_n hx hb dL_law_1538 rfl (lv_at hl 0 rfl) ?_
  refine lv_iload hx hb dL_law_1539 (lv_at hl 5 rfl) ?_
  refine lv_iconst (v := 2) hx hb dL_law_1541 (by decide) ?_
  refine lv_iadd hx hb dL_law_1542 ?_
  refine va_sld hx hb hX hbl hbA hH.2.2 hf.1 dL_law_1543 ?_
  have hf := hf.2
  refine lv_aload_n hx hb dL_law_1544 rfl (lv_at hl 0 rfl) ?_
  refine lv_iload hx hb dL_law_1545 (lv_at hl 5 rfl) ?_
  refine lv_iconst (v := 3) hx hb dL_law_1547 (by decide) ?_
  refine lv_iadd hx hb dL_law_1548 ?_
  refine va_sld hx hb hX hbl hbA hH.2.2 hf.1 dL_law_1549 ?_
  have hf := hf.2
  refine lv_aload_n hx hb dL_law_1550 rfl (lv_at hl 3 rfl) ?_
  obtain ⟨mc2, ms2, hm1, hs1, hf⟩ := hf
  refine q_callXi X hH hB hm1 hs1 (q_runSx [.ref l1, .int (xs (l5 + 1).toNatClampNeg), .int (xs (l5 + 2).toNatClampNeg), .int (xs (l5 + 3).toNatClampNeg), .ref l3] [] X hH hl (c_L_ifBond l D cy G X.2.2.2.1 hst hGE hGN S l1 (xs (l5 + 1).toNatClampNeg) (xs (l5 + 2).toNatClampNeg) (xs (l5 + 3).toNatClampNeg) l3 mc2 ms2 _ _ hf) mw_L_ifBond tw_1270 tw_1269 ⟨Nat.le_of_ble_eq_true rfl, Nat.le_of_ble_eq_true rfl⟩ rfl (Nat.le_of_ble_eq_true rfl) dL_law_1551 ⟨Nat.le_trans (Nat.add_le_add_left hm1 _) hB.1, Nat.le_trans (Nat.add_le_add_left hs1 _) hB.2⟩) (fun _ _ _ _ hf _ _ _ _ _ _ _ _ _ => hf.elim) (fun v3 S1 hf H locs cells slots hH hB => ?_)
  refine lv_istore (lv' := [(6, .int v3), (0, .ref b), (1, .ref l1), (2, .ref l2), (3, .ref l3), (4, .ref l4), (5, .int l5)]) hx hb dL_law_1554 hl (by decide) rfl (fun ls hl => ?_)
  refine lv_aload_n hx hb dL_law_1556 rfl (lv_at hl 3 rfl) ?_
  refine lv_aload_n hx hb dL_law_1557 rfl (lv_at hl 1 rfl) ?_
  refine lv_iload hx hb dL_law_1558 (lv_at hl 6 rfl) ?_
  refine lv_iconst (v := 1) hx hb dL_law_1560 (by decide) ?_
  refine lv_iadd hx hb dL_law_1561 ?_
  refine va_sld hx hb hX hbl hbA hH.2.2 hf.1 dL_law_1562 ?_
  have hf := hf.2
  refine lv_aload_n hx hb dL_law_1563 rfl (lv_at hl 1 rfl) ?_
  refine lv_iload hx hb dL_law_1564 (lv_at hl 6 rfl) ?_
  refine lv_iconst (v := 2) hx hb dL_law_1566 (by decide) ?_
  refine lv_iadd hx hb dL_law_1567 ?_
  refine va_sld hx hb hX hbl hbA hH.2.2 hf.1 dL_law_1568 ?_
  have hf := hf.2
  refine lv_aload_n hx hb dL_law_1569 rfl (lv_at hl 1 rfl) ?_
  refine lv_iload hx hb dL_law_1570 (lv_at hl 6 rfl) ?_
  refine lv_iconst (v := 3) hx hb dL_law_1572 (by decide) ?_
  refine lv_iadd hx hb dL_law_1573 ?_
  refine va_sld hx hb hX hbl hbA hH.2.2 hf.1 dL_law_1574 ?_
  have hf := hf.2
  obtain ⟨hb1, hb2, hf⟩ := hf
  refine q_backI0 X hH (q_runV [.int (xs (l5 + 1).toNatClampNeg), .int (xs (l5 + 2).toNatClampNeg), .int (xs (l5 + 3).toNatClampNeg)] [] X hH hl (c_X8_ifBond l D cy G X.2.2.2.1 S1 l2 (xs (l5 + 1).toNatClampNeg) (xs (l5 + 2).toNatClampNeg) (xs (l5 + 3).toNatClampNeg) _ _ hf) mf_X8_ifBond mv_X8_ifBond tw_1943 ⟨Nat.le_of_ble_eq_true rfl, Nat.le_of_ble_eq_true rfl⟩ hb1 hb2 (T := TX8) (N := 25) rfl rfl (Nat.le_of_ble_eq_true rfl) dL_law_1575 ⟨Nat.le_trans (Nat.le_add_right _ _) hB.1, Nat.le_trans (Nat.le_add_right _ _) hB.2⟩) (fun v5 S4 hf H locs hH => ?_)
  refine lv_istore (lv' := [(7, .int v5), (6, .int v3), (0, .ref b), (1, .ref l1), (2, .ref l2), (3, .ref l3), (4, .ref l4), (5, .int l5)]) hx hb dL_law_1578 hl (by decide) rfl (fun ls hl => ?_)
  refine lv_aload_n hx hb dL_law_1580 rfl (lv_at hl 4 rfl) ?_
  obtain ⟨hb1, hb2, hf⟩ := hf
  refine q_backI0 X hH (q_runV [] [] X hH hl (c_X8_thrown l D cy G X.2.2.2.1 S4 l2 _ _ hf) mf_X8_thrown mv_X8_thrown tw_1686 ⟨Nat.le_of_ble_eq_true rfl, Nat.le_of_ble_eq_true rfl⟩ hb1 hb2 (T := TX8) (N := 25) rfl rfl (Nat.le_of_ble_eq_true rfl) dL_law_1581 ⟨Nat.le_trans (Nat.le_add_right _ _) hB.1, Nat.le_trans (Nat.le_add_right _ _) hB.2⟩) (fun v7 S6 hf H locs hH => ?_)
  refine lv_iload hx hb dL_law_1584 (lv_at hl 1 rfl) ?_
  refine lv_icmp_eq (tgt := 1591) hx hb dL_law_1586 (by decide) (fun c8 => ?_) (fun c8 => ?_)
  · have hf := (if_pos c8).mp hf
    refine lv_iload hx hb dL_law_1591 (lv_at hl 1 rfl) ?_
    refine lv_if_ne (tgt := 1608) hx hb dL_law_1593 (by decide) (fun c9 => ?_) (fun c9 => ?_)
    · have hf := (if_neg c9).mp hf
      exact hJ1608 S6 (bc - mc2) (bs - ms2) l1 l2 l3 l4 l5 hf H locs ls cells slots hH (lv_sub hl [2, 3, 4, 5, 6, 7] rfl) hB
    · have hf := (if_pos c9).mp hf
      refine lv_aload_n hx hb dL_law_1596 rfl (lv_at hl 5 rfl) ?_
      refine lv_iconst (v := 0) hx hb dL_law_1597 (by decide) ?_
      refine q_lald X hH hf dL_law_1598 (fun v10 hf => ?_)
      refine lv_iload hx hb dL_law_1599 (lv_at hl 0 rfl) ?_
      refine lv_i2l (v := v5.toInt64) hx hb dL_law_1601 rfl ?_
      refine W.lcmp hx hb dL_law_1602 ?_
      refine lv_if_eq (tgt := 1608) hx hb dL_law_1603 (by decide) (fun c11 => ?_) (fun c11 => ?_)
      · have hf := (if_pos c11).mp hf
        exact hJ1608 S6 (bc - mc2) (bs - ms2) l1 l2 l3 l4 l5 hf H locs ls cells slots hH (lv_sub hl [2, 3, 4, 5, 6, 7] rfl) hB
      · have hf := (if_neg c11).mp hf
        refine lv_iconst (v := 0) hx hb dL_law_1606 (by decide) ?_
        exact hf.elim
  · have hf := (if_neg c8).mp hf
    refine lv_iconst (v := 0) hx hb dL_law_1589 (by decide) ?_
    exact hf.elim
set_option maxHeartbeats 4000000 in
set_option maxRecDepth 100000 in
theorem jL_law_1611 {p : Program} {e : Env} {s : State} {m : MethodId} {below : List Frame} {meth : Method} {c : Code} (l : Launch) (D : va_G) (cy : Nat → ClassId) (G : p_GT) (hGC : ∀ (A : Nat → Prop) (U : State) (H : Heap), G A U H → gC A U H) (hst : l.stackTraces = false) (hGE : ∀ (A : Nat → Prop) (U : State) (H : Heap), G A U H → p_Ex A U H) (hGF : ∀ (A : Nat → Prop) (U : State) (H : Heap), G A U H → gF A U H) (adK adV : Nat → Nat) (hGK : ∀ (A : Nat → Prop) (U : State) (H : Heap), G A U H → gK adK adV A U H) (hGN : ∀ (A : Nat → Prop) (U : State) (H : Heap), G A U H → gN A U H) (hGO : ∀ (A : Nat → Prop) (U : State) (H : Heap), G A U H → va_AO "VillageFeud$Village" U) (dT dO : Nat) (hGT : ∀ (A : Nat → Prop) (U : State) (H : Heap), G A U H → gT dT dO A U H) (hGU : ∀ (A : Nat → Prop) (U : State) (H : Heap), G A U H → gU A U H) (A : Nat → Prop) (b L : Nat) (xs : Nat → Int32) (X : p_X p m c cL_law 9 s #[.ref b] RL D cy G A) (hr : meth.sig.returnType = ret) (hlk : meth.locks = false) (hX : va_X b L xs s s.heap) (hbl : b < s.heap.size) (hbA : ¬ A b) (hfree : ∀ q, A q → s.heap.size ≤ q) (g28 : PS → Nat → Nat → Nat → Nat → Nat → Nat → Int32 → Prop) (ih28 : ∀ (S : PS) (bc bs : Nat) (l1 : Nat) (l2 : Nat) (l3 : Nat) (l4 : Nat) (l5 : Int32), g28 S bc bs l1 l2 l3 l4 l5 → ∀ (H : Heap) (locs : List Loc) (ls : Array Slot) (cells slots : Nat), p_H D cy S A s H locs → lv_has ls 9 [(0, .ref b), (1, .ref l1), (2, .ref l2), (3, .ref l3), (4, .ref l4), (5, .int l5)] → cells + bc ≤ room_1.cells ∧ slots + bs ≤ room_1.slots → W p l e room_1 s m #[Value.ref b] below meth c H locs cells slots (lw_Z below #[Value.ref b] s) (F0 m 28 ls [])) : ∀ (S : PS) (bc bs : Nat) (l1 : Nat) (l2 : Nat) (l3 : Nat) (l4 : Nat) (l5 : Int32), f_L_law_J1611 adK L xs g28 S bc bs l1 l2 l3 l4 l5 → ∀ (H : Heap) (locs : List Loc) (ls : Array Slot) (cells slots : Nat), p_H D cy S A s H locs → lv_has ls 9 [(0, .ref b), (1, .ref l1), (2, .ref l2), (3, .ref l3), (4, .ref l4), (5, .int l5)] → cells + bc ≤ room_1.cells ∧ slots + bs ≤ room_1.slots → W p l e room_1 s m #[Value.ref b] below meth c H locs cells slots (lw_Z below #[Value.ref b] s) (F0 m 1611 ls []) := by
  have hx := X.1.1
  have hb := X.1.2.1
  have hJ2561 := jL_law_2561 l D cy G hGC hst hGE hGF adK adV hGK hGN hGO dT dO hGT hGU A b L xs X hr hlk hX hbl hbA hfree g28 ih28
  intro S bc bs l1 l2 l3 l4 l5 hf H locs ls cells slots hH hl hB
  have hJ1683 : ∀ (S : PS) (bc bs : Nat) (l1 : Nat) (l2 : Nat) (l3 : Nat) (l4 : Nat) (l5 : Int32), f_L_law_J1683 adK L xs g28 S bc bs l1 l2 l3 l4 l5 → ∀ (H : Heap) (locs : List Loc) (ls : Array Slot) (cells slots : Nat), p_H D cy S A s H locs → lv_has ls 9 [(0, .ref b), (1, .ref l1), (2, .ref l2), (3, .ref l3), (4, .ref l4), (5, .int l5)] → cells + bc ≤ room_1.cells ∧ slots + bs ≤ room_1.slots → W p l e room_1 s m [.ref b].toArray below meth c H locs cells slots (lw_Z below #[Value.ref b] s) (F0 m 1683 ls []) := by
    intro S bc bs l1 l2 l3 l4 l5 hf H locs ls cells slots hH hl hB
    refine lv_goto (tgt := 2561) hx hb dL_law_1683 (by decide) ?_
    exact hJ2561 S bc bs l1 l2 l3 l4 l5 hf H locs ls cells slots hH hl hB
  have hJ1677 : ∀ (S : PS) (bc bs : Nat) (l1 : Nat) (l2 : Nat) (l3 : Nat) (l4 : Nat) (l5 : Int32) (t0 : Int64) (t1 : Int64), f_L_law_J1677 adK L xs g28 S bc bs l1 l2 l3 l4 l5 t0 t1 → ∀ (H : Heap) (locs : List Loc) (ls : Array Slot) (cells slots : Nat), p_H D cy S A s H locs → lv_has ls 9 [(0, .ref b), (1, .ref l1), (2, .ref l2), (3, .ref l3), (4, .ref l4), (5, .int l5)] → cells + bc ≤ room_1.cells ∧ slots + bs ≤ room_1.slots → W p l e room_1 s m [.ref b].toArray below meth c H locs cells slots (lw_Z below #[Value.ref b] s) (F0 m 1677 ls [.long t0, .long t1]) := by
    intro S bc bs l1 l2 l3 l4 l5 t0 t1 hf H locs ls cells slots hH hl hB
    refine W.lcmp hx hb dL_law_1677 ?_
    refine lv_if_eq (tgt := 1683) hx hb dL_law_1678 (by decide) (fun c1 => ?_) (fun c1 => ?_)
    · have hf := (if_pos c1).mp hf
      exact hJ1683 S bc bs l1 l2 l3 l4 l5 hf H locs ls cells slots hH hl hB
    · have hf := (if_neg c1).mp hf
      refine lv_iconst (v := 0) hx hb dL_law_1681 (by decide) ?_
      exact hf.elim
  refine lv_aload_n hx hb dL_law_1611 rfl (lv_at hl 1 rfl) ?_
  refine lv_aload_n hx hb dL_law_1612 rfl (lv_at hl 0 rfl) ?_
  refine lv_iload hx hb dL_law_1613 (lv_at hl 5 rfl) ?_
  refine lv_iconst (v := 1) hx hb dL_law_1615 (by decide) ?_
  refine lv_iadd hx hb dL_law_1616 ?_
  refine va_sld hx hb hX hbl hbA hH.2.2 hf.1 dL_law_1617 ?_
  have hf := hf.2
  refine lv_aload_n hx hb dL_law_1618 rfl (lv_at hl 0 rfl) ?_
  refine lv_iload hx hb dL_law_1619 (lv_at hl 5 rfl) ?_
  refine lv_iconst (v := 2) hx hb dL_law_1621 (by decide) ?_
  refine lv_iadd hx hb dL_law_1622 ?_
  refine va_sld hx hb hX hbl hbA hH.2.2 hf.1 dL_law_1623 ?_
  have hf := hf.2
  refine lv_aload_n hx hb dL_law_1624 rfl (lv_at hl 3 rfl) ?_
  obtain ⟨mc2, ms2, hm1, hs1, hf⟩ := hf
  refine q_callXi X hH hB hm1 hs1 (q_runSx [.ref l1, .int (xs (l5 + 1).toNatClampNeg), .int (xs (l5 + 2).toNatClampNeg), .ref l3] [] X hH hl (c_L_isCritical l D cy G X.2.2.2.1 hst hGE hGN S l1 (xs (l5 + 1).toNatClampNeg) (xs (l5 + 2).toNatClampNeg) l3 mc2 ms2 _ _ hf) mw_L_isCritical tw_1282 tw_1281 ⟨Nat.le_of_ble_eq_true rfl, Nat.le_of_ble_eq_true rfl⟩ rfl (Nat.le_of_ble_eq_true rfl) dL_law_1625 ⟨Nat.le_trans (Nat.add_le_add_left hm1 _) hB.1, Nat.le_trans (Nat.add_le_add_left hs1 _) hB.2⟩) (fun _ _ _ _ hf _ _ _ _ _ _ _ _ _ => hf.elim) (fun v3 S1 hf H locs cells slots hH hB => ?_)
  refine lv_istore (lv' := [(6, .int v3), (0, .ref b), (1, .ref l1), (2, .ref l2), (3, .ref l3), (4, .ref l4), (5, .int l5)]) hx hb dL_law_1628 hl (by decide) rfl (fun ls hl => ?_)
  refine lv_aload_n hx hb dL_law_1630 rfl (lv_at hl 3 rfl) ?_
  refine lv_aload_n hx hb dL_law_1631 rfl (lv_at hl 1 rfl) ?_
  refine lv_iload hx hb dL_law_1632 (lv_at hl 6 rfl) ?_
  refine lv_iconst (v := 1) hx hb dL_law_1634 (by decide) ?_
  refine lv_iadd hx hb dL_law_1635 ?_
  refine va_sld hx hb hX hbl hbA hH.2.2 hf.1 dL_law_1636 ?_
  have hf := hf.2
  refine lv_aload_n hx hb dL_law_1637 rfl (lv_at hl 1 rfl) ?_
  refine lv_iload hx hb dL_law_1638 (lv_at hl 6 rfl) ?_
  refine lv_iconst (v := 2) hx hb dL_law_1640 (by decide) ?_
  refine lv_iadd hx hb dL_law_1641 ?_
  refine va_sld hx hb hX hbl hbA hH.2.2 hf.1 dL_law_1642 ?_
  have hf := hf.2
  obtain ⟨hb1, hb2, hf⟩ := hf
  refine q_backI0 X hH (q_runV [.int (xs (l5 + 1).toNatClampNeg), .int (xs (l5 + 2).toNatClampNeg)] [] X hH hl (c_X8_isCritical l D cy G X.2.2.2.1 S1 l2 (xs (l5 + 1).toNatClampNeg) (xs (l5 + 2).toNatClampNeg) _ _ hf) mf_X8_isCritical mv_X8_isCritical tw_1951 ⟨Nat.le_of_ble_eq_true rfl, Nat.le_of_ble_eq_true rfl⟩ hb1 hb2 (T := TX8) (N := 25) rfl rfl (Nat.le_of_ble_eq_true rfl) dL_law_1643 ⟨Nat.le_trans (Nat.le_add_right _ _) hB.1, Nat.le_trans (Nat.le_add_right _ _) hB.2⟩) (fun v5 S4 hf H locs hH => ?_)
  refine lv_istore (lv' := [(7, .int v5), (6, .int v3), (0, .ref b), (1, .ref l1), (2, .ref l2), (3, .ref l3), (4, .ref l4), (5, .int l5)]) hx hb dL_law_1646 hl (by decide) rfl (fun ls hl => ?_)
  refine lv_aload_n hx hb dL_law_1648 rfl (lv_at hl 4 rfl) ?_
  obtain ⟨hb1, hb2, hf⟩ := hf
  refine q_backI0 X hH (q_runV [] [] X hH hl (c_X8_thrown l D cy G X.2.2.2.1 S4 l2 _ _ hf) mf_X8_thrown mv_X8_thrown tw_1686 ⟨Nat.le_of_ble_eq_true rfl, Nat.le_of_ble_eq_true rfl⟩ hb1 hb2 (T := TX8) (N := 25) rfl rfl (Nat.le_of_ble_eq_true rfl) dL_law_1649 ⟨Nat.le_trans (Nat.le_add_right _ _) hB.1, Nat.le_trans (Nat.le_add_right _ _) hB.2⟩) (fun v7 S6 hf H locs hH => ?_)
  refine lv_iload hx hb dL_law_1652 (lv_at hl 1 rfl) ?_
  refine lv_icmp_eq (tgt := 1659) hx hb dL_law_1654 (by decide) (fun c8 => ?_) (fun c8 => ?_)
  · have hf := (if_pos c8).mp hf
    refine lv_iload hx hb dL_law_1659 (lv_at hl 1 rfl) ?_
    refine lv_if_ne (tgt := 1683) hx hb dL_law_1661 (by decide) (fun c9 => ?_) (fun c9 => ?_)
    · have hf := (if_neg c9).mp hf
      exact hJ1683 S6 (bc - mc2) (bs - ms2) l1 l2 l3 l4 l5 hf H locs ls cells slots hH (lv_sub hl [2, 3, 4, 5, 6, 7] rfl) hB
    · have hf := (if_pos c9).mp hf
      refine lv_aload_n hx hb dL_law_1664 rfl (lv_at hl 5 rfl) ?_
      refine lv_iconst (v := 0) hx hb dL_law_1665 (by decide) ?_
      refine q_lald X hH hf dL_law_1666 (fun v10 hf => ?_)
      refine lv_iload hx hb dL_law_1667 (lv_at hl 0 rfl) ?_
      refine lv_if_eq (tgt := 1676) hx hb dL_law_1669 (by decide) (fun c11 => ?_) (fun c11 => ?_)
      · have hf := (if_pos c11).mp hf
        refine lv_lconst (v := 0) hx hb dL_law_1676 (by decide) ?_
        exact hJ1677 S6 (bc - mc2) (bs - ms2) l1 l2 l3 l4 l5 0 v10 hf H locs ls cells slots hH (lv_sub hl [2, 3, 4, 5, 6, 7] rfl) hB
      · have hf := (if_neg c11).mp hf
        refine lv_lconst (v := 1) hx hb dL_law_1672 (by decide) ?_
        refine lv_goto (tgt := 1677) hx hb dL_law_1673 (by decide) ?_
        exact hJ1677 S6 (bc - mc2) (bs - ms2) l1 l2 l3 l4 l5 1 v10 hf H locs ls cells slots hH (lv_sub hl [2, 3, 4, 5, 6, 7] rfl) hB
  · have hf := (if_neg c8).mp hf
    refine lv_iconst (v := 0) hx hb dL_law_1657 (by decide) ?_
    exact hf.elim
set_option maxHeartbeats 4000000 in
set_option maxRecDepth 100000 in
theorem jL_law_1686 {p : Program} {e : Env} {s : State} {m : MethodId} {below : List Frame} {meth : Method} {c : Code} (l : Launch) (D : va_G) (cy : Nat → ClassId) (G : p_GT) (hGC : ∀ (A : Nat → Prop) (U : State) (H : Heap), G A U H → gC A U H) (hst : l.stackTraces = false) (hGE : ∀ (A : Nat → Prop) (U : State) (H : Heap), G A U H → p_Ex A U H) (hGF : ∀ (A : Nat → Prop) (U : State) (H : Heap), G A U H → gF A U H) (adK adV : Nat → Nat) (hGK : ∀ (A : Nat → Prop) (U : State) (H : Heap), G A U H → gK adK adV A U H) (hGN : ∀ (A : Nat → Prop) (U : State) (H : Heap), G A U H → gN A U H) (hGO : ∀ (A : Nat → Prop) (U : State) (H : Heap), G A U H → va_AO "VillageFeud$Village" U) (dT dO : Nat) (hGT : ∀ (A : Nat → Prop) (U : State) (H : Heap), G A U H → gT dT dO A U H) (hGU : ∀ (A : Nat → Prop) (U : State) (H : Heap), G A U H → gU A U H) (A : Nat → Prop) (b L : Nat) (xs : Nat → Int32) (X : p_X p m c cL_law 9 s #[.ref b] RL D cy G A) (hr : meth.sig.returnType = ret) (hlk : meth.locks = false) (hX : va_X b L xs s s.heap) (hbl : b < s.heap.size) (hbA : ¬ A b) (hfree : ∀ q, A q → s.heap.size ≤ q) (g28 : PS → Nat → Nat → Nat → Nat → Nat → Nat → Int32 → Prop) (ih28 : ∀ (S : PS) (bc bs : Nat) (l1 : Nat) (l2 : Nat) (l3 : Nat) (l4 : Nat) (l5 : Int32), g28 S bc bs l1 l2 l3 l4 l5 → ∀ (H : Heap) (locs : List Loc) (ls : Array Slot) (cells slots : Nat), p_H D cy S A s H locs → lv_has ls 9 [(0, .ref b), (1, .ref l1), (2, .ref l2), (3, .ref l3), (4, .ref l4), (5, .int l5)] → cells + bc ≤ room_1.cells ∧ slots + bs ≤ room_1.slots → W p l e room_1 s m #[Value.ref b] below meth c H locs cells slots (lw_Z below #[Value.ref b] s) (F0 m 28 ls [])) : ∀ (S : PS) (bc bs : Nat) (l1 : Nat) (l2 : Nat) (l3 : Nat) (l4 : Nat) (l5 : Int32), f_L_law_J1686 adK L xs g28 S bc bs l1 l2 l3 l4 l5 → ∀ (H : Heap) (locs : List Loc) (ls : Array Slot) (cells slots : Nat), p_H D cy S A s H locs → lv_has ls 9 [(0, .ref b), (1, .ref l1), (2, .ref l2), (3, .ref l3), (4, .ref l4), (5, .int l5)] → cells + bc ≤ room_1.cells ∧ slots + bs ≤ room_1.slots → W p l e room_1 s m #[Value.ref b] below meth c H locs cells slots (lw_Z below #[Value.ref b] s) (F0 m 1686 ls []) := by
  have hx := X.1.1
  have hb := X.1.2.1
  have hJ2561 := jL_law_2561 l D cy G hGC hst hGE hGF adK adV hGK hGN hGO dT dO hGT hGU A b L xs X hr hlk hX hbl hbA hfree g28 ih28
  intro S bc bs l1 l2 l3 l4 l5 hf H locs ls cells slots hH hl hB
  refine lv_aload_n hx hb dL_law_1686 rfl (lv_at hl 1 rfl) ?_
  obtain ⟨hb1, hb2, hf⟩ := hf
  refine q_backI0 X hH (q_runV [] [] X hH hl (c_X7_parts l D cy G X.2.2.2.1 S l1 _ _ hf) mf_X7_parts mv_X7_parts tw_411 ⟨Nat.le_of_ble_eq_true rfl, Nat.le_of_ble_eq_true rfl⟩ hb1 hb2 (T := TX7) (N := 12) rfl rfl (Nat.le_of_ble_eq_true rfl) dL_law_1687 ⟨Nat.le_trans (Nat.le_add_right _ _) hB.1, Nat.le_trans (Nat.le_add_right _ _) hB.2⟩) (fun v2 S1 hf H locs hH => ?_)
  refine lv_aload_n hx hb dL_law_1690 rfl (lv_at hl 2 rfl) ?_
  obtain ⟨hb1, hb2, hf⟩ := hf
  refine q_backI0 X hH (q_runV [] [.int v2] X hH hl (c_X8_parts l D cy G X.2.2.2.1 S1 l2 _ _ hf) mf_X8_parts mv_X8_parts tw_1955 ⟨Nat.le_of_ble_eq_true rfl, Nat.le_of_ble_eq_true rfl⟩ hb1 hb2 (T := TX8) (N := 25) rfl rfl (Nat.le_of_ble_eq_true rfl) dL_law_1691 ⟨Nat.le_trans (Nat.le_add_right _ _) hB.1, Nat.le_trans (Nat.le_add_right _ _) hB.2⟩) (fun v4 S3 hf H locs hH => ?_)
  refine lv_icmp_eq (tgt := 2561) hx hb dL_law_1694 (by decide) (fun c5 => ?_) (fun c5 => ?_)
  · have hf := (if_pos c5).mp hf
    exact hJ2561 S3 bc bs l1 l2 l3 l4 l5 hf H locs ls cells slots hH hl hB
  · have hf := (if_neg c5).mp hf
    refine lv_iconst (v := 0) hx hb dL_law_1697 (by decide) ?_
    exact hf.elim
