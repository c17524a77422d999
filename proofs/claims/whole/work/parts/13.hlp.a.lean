-- L_weight
def f_L_weight (S : PS) (a0 : Nat) (a1 : Int32) (a2 : Int32) (a3 : Nat) (bc bs : Nat) (post : Int32 → PS → Prop) : Prop :=
  isO S a0 11 (
  ∃ mc2 ms2 : Nat, mc2 ≤ bc ∧ ms2 ≤ bs ∧ (f_X7_weight S a0 a1 a2 mc2 ms2 (fun v3 S1 => (
    sL S1 a3 0 v3.toInt64 fun S5 => (
    post 0 S5))) (fun E4 S4 => (
  (E4 = "java/lang/IndexOutOfBoundsException" ∧ (
    post 1 S4))))))
abbrev rm_L_weight (mc ms : Nat) : Room := { frames := 7, cells := mc, slots := ms, locals := 112 }
set_option maxHeartbeats 4000000 in
set_option maxRecDepth 100000 in
theorem c_L_weight (l : Launch) (D : va_G) (cy : Nat → ClassId) (G : p_GT) (hG : p_ok G) (hst : l.stackTraces = false) (hGE : ∀ (A : Nat → Prop) (U : State) (H : Heap), G A U H → p_Ex A U H) (S : PS) (a0 : Nat) (a1 : Int32) (a2 : Int32) (a3 : Nat) (mc ms : Nat) (post : Int32 → PS → Prop) (sz : Nat) (hf : f_L_weight S a0 a1 a2 a3 mc ms post) : p_Xi l D cy G S sz yL_weight (Cond.codeWith yL_weight cL_weight 5 (some .int) [(0, 10, 13, 39)] :: wG) (rm_L_weight mc ms) [.ref a0, .int a1, .int a2, .ref a3] mc ms post (fun _ _ => False) := by
  refine q_startH hG (Qc := fun A => va_Qi post (p_Post D cy A) A) (XC := fun A => p_XC D cy A (fun _ _ => False)) mw_L_weight (Nat.le_of_ble_eq_true rfl) (own := RL) rfl ?_
  intro p e s m below meth c A X hr hlk hnm htab ls hl hH
  have hx := X.1.1
  have hb := X.1.2.1
  replace hl : lv_has ls 5 [(0, .ref a0), (1, .int a1), (2, .int a2), (3, .ref a3)] := hl
  have main : ∀ (H : Heap) (locs : List Loc) (ls : Array Slot) (cells slots bc bs : Nat), f_L_weight S a0 a1 a2 a3 bc bs post → p_H D cy S A s H locs → lv_has ls 5 [(0, .ref a0), (1, .int a1), (2, .int a2), (3, .ref a3)] → cells + bc ≤ mc ∧ slots + bs ≤ ms → W p l e (rm_L_weight mc ms) s m [.ref a0, .int a1, .int a2, .ref a3].toArray below meth c H locs cells slots (vx_MQ below (va_Qi post (p_Post D cy A) A) (p_XC D cy A (fun _ _ => False)) [.ref a0, .int a1, .int a2, .ref a3].toArray s mc ms A) (F0 m 0 ls []) := by
    intro H locs ls cells slots bc bs hf hH hl hB
    refine lv_aload_n hx hb dL_weight_0 rfl (lv_at hl 3 rfl) ?_
    refine lv_iconst (v := 0) hx hb dL_weight_1 (by decide) ?_
    refine lv_aload_n hx hb dL_weight_2 rfl (lv_at hl 0 rfl) ?_
    refine lv_iload_n hx hb dL_weight_3 rfl (lv_at hl 1 rfl) ?_
    refine lv_iload_n hx hb dL_weight_4 rfl (lv_at hl 2 rfl) ?_
    obtain ⟨hb1, hb2, mc2, ms2, hm1, hs1, hf⟩ := hf
    refine q_callXi X hH hB hm1 hs1 (q_runVx [.int a1, .int a2] [.int 0, .ref a3] X hH hl (c_X7_weight l D cy G X.2.2.2.1 hst hGE S a0 a1 a2 mc2 ms2 _ _ _ hf) mf_X7_weight mv_X7_weight tw_1102 ⟨Nat.le_of_ble_eq_true rfl, Nat.le_of_ble_eq_true rfl⟩ hb1 hb2 (T := TX7) (N := 12) rfl rfl (Nat.le_of_ble_eq_true rfl) dL_weight_5 ⟨Nat.le_trans (Nat.add_le_add_left hm1 _) hB.1, Nat.le_trans (Nat.add_le_add_left hs1 _) hB.2⟩) (fun E4 ce q9 S4 hf H locs cells slots hH hB hc1 hc2 hc3 => ?_) (fun v3 S1 hf H locs cells slots hH hB => ?_)
    · rcases hf with ⟨rfl, hf⟩
      · refine vx_catch X.1.2.2.2.1 [] ⟨0, 10, 13, 39⟩ [] htab (fun z hz => nomatch hz) (by decide) (by decide) (X.1.2.2.2.2 _ tw_1099) (va_Nw.use (by decide +kernel) ((hGE _ _ _ X.2.2.2.2).1 _ (List.mem_of_getElem? (i := 4) rfl))) hc1 hc2 hc3 ?_
        refine lv_astore (lv' := [(4, .ref q9), (0, .ref a0), (1, .int a1), (2, .int a2), (3, .ref a3)]) hx hb dL_weight_13 hl (by decide) rfl (fun ls hl => ?_)
        refine lv_iconst (v := 1) hx hb dL_weight_15 (by decide) ?_
        exact vx_ret (q_retI X hH hr hlk hf (Nat.le_trans (Nat.le_add_right _ _) hB.1) (Nat.le_trans (Nat.le_add_right _ _) hB.2) dL_weight_16)
    · refine lv_i2l (v := v3.toInt64) hx hb dL_weight_8 rfl ?_
      refine q_last X hH hf dL_weight_9 (fun S5 hf H locs hH => ?_)
      refine lv_goto (tgt := 17) hx hb dL_weight_10 (by decide) ?_
      refine lv_iconst (v := 0) hx hb dL_weight_17 (by decide) ?_
      exact vx_ret (q_retI X hH hr hlk hf (Nat.le_trans (Nat.le_add_right _ _) hB.1) (Nat.le_trans (Nat.le_add_right _ _) hB.2) dL_weight_18)
  exact main s.heap [] ls 0 0 mc ms hf hH hl ⟨by omega, by omega⟩
-- L_bondAt
def f_L_bondAt (S : PS) (a0 : Nat) (a1 : Int32) (a2 : Nat) (bc bs : Nat) (post : Int32 → PS → Prop) : Prop :=
  isO S a0 11 (
  ∃ mc2 ms2 : Nat, mc2 ≤ bc ∧ ms2 ≤ bs ∧ (f_X7_bondAt S a0 a1 mc2 ms2 (fun v3 S1 => (
    sL S1 a2 0 v3.toInt64 fun S5 => (
    post 0 S5))) (fun E4 S4 => (
  (E4 = "java/util/NoSuchElementException" ∧ (
    post 1 S4))))))
abbrev rm_L_bondAt (mc ms : Nat) : Room := { frames := 7, cells := mc, slots := ms, locals := 112 }
set_option maxHeartbeats 4000000 in
set_option maxRecDepth 100000 in
theorem c_L_bondAt (l : Launch) (D : va_G) (cy : Nat → ClassId) (G : p_GT) (hG : p_ok G) (hst : l.stackTraces = false) (hGE : ∀ (A : Nat → Prop) (U : State) (H : Heap), G A U H → p_Ex A U H) (S : PS) (a0 : Nat) (a1 : Int32) (a2 : Nat) (mc ms : Nat) (post : Int32 → PS → Prop) (sz : Nat) (hf : f_L_bondAt S a0 a1 a2 mc ms post) : p_Xi l D cy G S sz yL_bondAt (Cond.codeWith yL_bondAt cL_bondAt 4 (some .int) [(0, 9, 12, 55)] :: wG) (rm_L_bondAt mc ms) [.ref a0, .int a1, .ref a2] mc ms post (fun _ _ => False) := by
  refine q_startH hG (Qc := fun A => va_Qi post (p_Post D cy A) A) (XC := fun A => p_XC D cy A (fun _ _ => False)) mw_L_bondAt (Nat.le_of_ble_eq_true rfl) (own := RL) rfl ?_
  intro p e s m below meth c A X hr hlk hnm htab ls hl hH
  have hx := X.1.1
  have hb := X.1.2.1
  replace hl : lv_has ls 4 [(0, .ref a0), (1, .int a1), (2, .ref a2)] := hl
  have main : ∀ (H : Heap) (locs : List Loc) (ls : Array Slot) (cells slots bc bs : Nat), f_L_bondAt S a0 a1 a2 bc bs post → p_H D cy S A s H locs → lv_has ls 4 [(0, .ref a0), (1, .int a1), (2, .ref a2)] → cells + bc ≤ mc ∧ slots + bs ≤ ms → W p l e (rm_L_bondAt mc ms) s m [.ref a0, .int a1, .ref a2].toArray below meth c H locs cells slots (vx_MQ below (va_Qi post (p_Post D cy A) A) (p_XC D cy A (fun _ _ => False)) [.ref a0, .int a1, .ref a2].toArray s mc ms A) (F0 m 0 ls []) := by
    intro H locs ls cells slots bc bs hf hH hl hB
    refine lv_aload_n hx hb dL_bondAt_0 rfl (lv_at hl 2 rfl) ?_
    refine lv_iconst (v := 0) hx hb dL_bondAt_1 (by decide) ?_
    refine lv_aload_n hx hb dL_bondAt_2 rfl (lv_at hl 0 rfl) ?_
    refine lv_iload_n hx hb dL_bondAt_3 rfl (lv_at hl 1 rfl) ?_
    obtain ⟨hb1, hb2, mc2, ms2, hm1, hs1, hf⟩ := hf
    refine q_callXi X hH hB hm1 hs1 (q_runVx [.int a1] [.int 0, .ref a2] X hH hl (c_X7_bondAt l D cy G X.2.2.2.1 hst hGE S a0 a1 mc2 ms2 _ _ _ hf) mf_X7_bondAt mv_X7_bondAt tw_1315 ⟨Nat.le_of_ble_eq_true rfl, Nat.le_of_ble_eq_true rfl⟩ hb1 hb2 (T := TX7) (N := 12) rfl rfl (Nat.le_of_ble_eq_true rfl) dL_bondAt_4 ⟨Nat.le_trans (Nat.add_le_add_left hm1 _) hB.1, Nat.le_trans (Nat.add_le_add_left hs1 _) hB.2⟩) (fun E4 ce q9 S4 hf H locs cells slots hH hB hc1 hc2 hc3 => ?_) (fun v3 S1 hf H locs cells slots hH hB => ?_)
    · rcases hf with ⟨rfl, hf⟩
      · refine vx_catch X.1.2.2.2.1 [] ⟨0, 9, 12, 55⟩ [] htab (fun z hz => nomatch hz) (by decide) (by decide) (X.1.2.2.2.2 _ tw_1171) (va_Nw.use (by decide +kernel) ((hGE _ _ _ X.2.2.2.2).1 _ (List.mem_of_getElem? (i := 6) rfl))) hc1 hc2 hc3 ?_
        refine lv_astore_n (lv' := [(3, .ref q9), (0, .ref a0), (1, .int a1), (2, .ref a2)]) hx hb dL_bondAt_12 rfl hl (by decide) rfl (fun ls hl => ?_)
        refine lv_iconst (v := 1) hx hb dL_bondAt_13 (by decide) ?_
        exact vx_ret (q_retI X hH hr hlk hf (Nat.le_trans (Nat.le_add_right _ _) hB.1) (Nat.le_trans (Nat.le_add_right _ _) hB.2) dL_bondAt_14)
    · refine lv_i2l (v := v3.toInt64) hx hb dL_bondAt_7 rfl ?_
      refine q_last X hH hf dL_bondAt_8 (fun S5 hf H locs hH => ?_)
      refine lv_goto (tgt := 15) hx hb dL_bondAt_9 (by decide) ?_
      refine lv_iconst (v := 0) hx hb dL_bondAt_15 (by decide) ?_
      exact vx_ret (q_retI X hH hr hlk hf (Nat.le_trans (Nat.le_add_right _ _) hB.1) (Nat.le_trans (Nat.le_add_right _ _) hB.2) dL_bondAt_16)
  exact main s.heap [] ls 0 0 mc ms hf hH hl ⟨by omega, by omega⟩
-- L_heaviest
def f_L_heaviest (S : PS) (a0 : Nat) (a1 : Nat) (bc bs : Nat) (post : Int32 → PS → Prop) : Prop :=
  isO S a0 11 (
  ∃ mc2 ms2 : Nat, mc2 ≤ bc ∧ ms2 ≤ bs ∧ (f_X7_heaviest S a0 mc2 ms2 (fun v3 S1 => (
    sL S1 a1 0 v3.toInt64 fun S5 => (
    post 0 S5))) (fun E4 S4 => (
  (E4 = "java/util/NoSuchElementException" ∧ (
    post 1 S4))))))
abbrev rm_L_heaviest (mc ms : Nat) : Room := { frames := 7, cells := mc, slots := ms, locals := 111 }
set_option maxHeartbeats 4000000 in
set_option maxRecDepth 100000 in
theorem c_L_heaviest (l : Launch) (D : va_G) (cy : Nat → ClassId) (G : p_GT) (hG : p_ok G) (hst : l.stackTraces = false) (hGE : ∀ (A : Nat → Prop) (U : State) (H : Heap), G A U H → p_Ex A U H) (S : PS) (a0 : Nat) (a1 : Nat) (mc ms : Nat) (post : Int32 → PS → Prop) (sz : Nat) (hf : f_L_heaviest S a0 a1 mc ms post) : p_Xi l D cy G S sz yL_heaviest (Cond.codeWith yL_heaviest cL_heaviest 3 (some .int) [(0, 8, 11, 55)] :: wG) (rm_L_heaviest mc ms) [.ref a0, .ref a1] mc ms post (fun _ _ => False) := by
  refine q_startH hG (Qc := fun A => va_Qi post (p_Post D cy A) A) (XC := fun A => p_XC D cy A (fun _ _ => False)) mw_L_heaviest (Nat.le_of_ble_eq_true rfl) (own := RL) rfl ?_
  intro p e s m below meth c A X hr hlk hnm htab ls hl hH
  have hx := X.1.1
  have hb := X.1.2.1
  replace hl : lv_has ls 3 [(0, .ref a0), (1, .ref a1)] := hl
  have main : ∀ (H : Heap) (locs : List Loc) (ls : Array Slot) (cells slots bc bs : Nat), f_L_heaviest S a0 a1 bc bs post → p_H D cy S A s H locs → lv_has ls 3 [(0, .ref a0), (1, .ref a1)] → cells + bc ≤ mc ∧ slots + bs ≤ ms → W p l e (rm_L_heaviest mc ms) s m [.ref a0, .ref a1].toArray below meth c H locs cells slots (vx_MQ below (va_Qi post (p_Post D cy A) A) (p_XC D cy A (fun _ _ => False)) [.ref a0, .ref a1].toArray s mc ms A) (F0 m 0 ls []) := by
    intro H locs ls cells slots bc bs hf hH hl hB
    refine lv_aload_n hx hb dL_heaviest_0 rfl (lv_at hl 1 rfl) ?_
    refine lv_iconst (v := 0) hx hb dL_heaviest_1 (by decide) ?_
    refine lv_aload_n hx hb dL_heaviest_2 rfl (lv_at hl 0 rfl) ?_
    obtain ⟨hb1, hb2, mc2, ms2, hm1, hs1, hf⟩ := hf
    refine q_callXi X hH hB hm1 hs1 (q_runVx [] [.int 0, .ref a1] X hH hl (c_X7_heaviest l D cy G X.2.2.2.1 hst hGE S a0 mc2 ms2 _ _ _ hf) mf_X7_heaviest mv_X7_heaviest tw_1327 ⟨Nat.le_of_ble_eq_true rfl, Nat.le_of_ble_eq_true rfl⟩ hb1 hb2 (T := TX7) (N := 12) rfl rfl (Nat.le_of_ble_eq_true rfl) dL_heaviest_3 ⟨Nat.le_trans (Nat.add_le_add_left hm1 _) hB.1, Nat.le_trans (Nat.add_le_add_left hs1 _) hB.2⟩) (fun E4 ce q9 S4 hf H locs cells slots hH hB hc1 hc2 hc3 => ?_) (fun v3 S1 hf H locs cells slots hH hB => ?_)
    · rcases hf with ⟨rfl, hf⟩
      · refine vx_catch X.1.2.2.2.1 [] ⟨0, 8, 11, 55⟩ [] htab (fun z hz => nomatch hz) (by decide) (by decide) (X.1.2.2.2.2 _ tw_1171) (va_Nw.use (by decide +kernel) ((hGE _ _ _ X.2.2.2.2).1 _ (List.mem_of_getElem? (i := 6) rfl))) hc1 hc2 hc3 ?_
        refine lv_astore_n (lv' := [(2, .ref q9), (0, .ref a0), (1, .ref a1)]) hx hb dL_heaviest_11 rfl hl (by decide) rfl (fun ls hl => ?_)
        refine lv_iconst (v := 1) hx hb dL_heaviest_12 (by decide) ?_
        exact vx_ret (q_retI X hH hr hlk hf (Nat.le_trans (Nat.le_add_right _ _) hB.1) (Nat.le_trans (Nat.le_add_right _ _) hB.2) dL_heaviest_13)
    · refine lv_i2l (v := v3.toInt64) hx hb dL_heaviest_6 rfl ?_
      refine q_last X hH hf dL_heaviest_7 (fun S5 hf H locs hH => ?_)
      refine lv_goto (tgt := 14) hx hb dL_heaviest_8 (by decide) ?_
      refine lv_iconst (v := 0) hx hb dL_heaviest_14 (by decide) ?_
      exact vx_ret (q_retI X hH hr hlk hf (Nat.le_trans (Nat.le_add_right _ _) hB.1) (Nat.le_trans (Nat.le_add_right _ _) hB.2) dL_heaviest_15)
  exact main s.heap [] ls 0 0 mc ms hf hH hl ⟨by omega, by omega⟩
-- L_reason
def f_L_reason (S : PS) (a0 : Nat) (a1 : Int32) (a2 : Int32) (a3 : Nat) (bc bs : Nat) (post : Int32 → PS → Prop) : Prop :=
  isO S a0 11 (
  ∃ mc2 ms2 : Nat, mc2 ≤ bc ∧ ms2 ≤ bs ∧ (f_X7_reason S a0 a1 a2 mc2 ms2 (fun v3 S1 => (
    sL S1 a3 0 v3.toInt64 fun S5 => (
    post 0 S5))) (fun E4 S4 => (
  (E4 = "java/lang/IllegalArgumentException" ∧ (
    post 1 S4)) ∨
  (E4 = "java/util/NoSuchElementException" ∧ (
    post 2 S4))))))
abbrev rm_L_reason (mc ms : Nat) : Room := { frames := 7, cells := mc, slots := ms, locals := 112 }
set_option maxHeartbeats 4000000 in
set_option maxRecDepth 100000 in
theorem c_L_reason (l : Launch) (D : va_G) (cy : Nat → ClassId) (G : p_GT) (hG : p_ok G) (hst : l.stackTraces = false) (hGE : ∀ (A : Nat → Prop) (U : State) (H : Heap), G A U H → p_Ex A U H) (hGN : ∀ (A : Nat → Prop) (U : State) (H : Heap), G A U H → gN A U H) (S : PS) (a0 : Nat) (a1 : Int32) (a2 : Int32) (a3 : Nat) (mc ms : Nat) (post : Int32 → PS → Prop) (sz : Nat) (hf : f_L_reason S a0 a1 a2 a3 mc ms post) : p_Xi l D cy G S sz yL_reason (Cond.codeWith yL_reason cL_reason 5 (some .int) [(0, 10, 13, 44), (0, 10, 17, 55)] :: wG) (rm_L_reason mc ms) [.ref a0, .int a1, .int a2, .ref a3] mc ms post (fun _ _ => False) := by
  refine q_startH hG (Qc := fun A => va_Qi post (p_Post D cy A) A) (XC := fun A => p_XC D cy A (fun _ _ => False)) mw_L_reason (Nat.le_of_ble_eq_true rfl) (own := RL) rfl ?_
  intro p e s m below meth c A X hr hlk hnm htab ls hl hH
  have hx := X.1.1
  have hb := X.1.2.1
  replace hl : lv_has ls 5 [(0, .ref a0), (1, .int a1), (2, .int a2), (3, .ref a3)] := hl
  have main : ∀ (H : Heap) (locs : List Loc) (ls : Array Slot) (cells slots bc bs : Nat), f_L_reason S a0 a1 a2 a3 bc bs post → p_H D cy S A s H locs → lv_has ls 5 [(0, .ref a0), (1, .int a1), (2, .int a2), (3, .ref a3)] → cells + bc ≤ mc ∧ slots + bs ≤ ms → W p l e (rm_L_reason mc ms) s m [.ref a0, .int a1, .int a2, .ref a3].toArray below meth c H locs cells slots (vx_MQ below (va_Qi post (p_Post D cy A) A) (p_XC D cy A (fun _ _ => False)) [.ref a0, .int a1, .int a2, .ref a3].toArray s mc ms A) (F0 m 0 ls []) := by
    intro H locs ls cells slots bc bs hf hH hl hB
    refine lv_aload_n hx hb dL_reason_0 rfl (lv_at hl 3 rfl) ?_
    refine lv_iconst (v := 0) hx hb dL_reason_1 (by decide) ?_
    refine lv_aload_n hx hb dL_reason_2 rfl (lv_at hl 0 rfl) ?_
    refine lv_iload_n hx hb dL_reason_3 rfl (lv_at hl 1 rfl) ?_
    refine lv_iload_n hx hb dL_reason_4 rfl (lv_at hl 2 rfl) ?_
    obtain ⟨hb1, hb2, mc2, ms2, hm1, hs1, hf⟩ := hf
    refine q_callXi X hH hB hm1 hs1 (q_runVx [.int a1, .int a2] [.int 0, .ref a3] X hH hl (c_X7_reason l D cy G X.2.2.2.1 hst hGE S a0 a1 a2 mc2 ms2 _ _ _ hf) mf_X7_reason mv_X7_reason tw_1489 ⟨Nat.le_of_ble_eq_true rfl, Nat.le_of_ble_eq_true rfl⟩ hb1 hb2 (T := TX7) (N := 12) rfl rfl (Nat.le_of_ble_eq_true rfl) dL_reason_5 ⟨Nat.le_trans (Nat.add_le_add_left hm1 _) hB.1, Nat.le_trans (Nat.add_le_add_left hs1 _) hB.2⟩) (fun E4 ce q9 S4 hf H locs cells slots hH hB hc1 hc2 hc3 => ?_) (fun v3 S1 hf H locs cells slots hH hB => ?_)
    · rcases hf with ⟨rfl, hf⟩ | ⟨rfl, hf⟩
      · refine vx_catch X.1.2.2.2.1 [] ⟨0, 10, 13, 44⟩ [⟨0, 10, 17, 55⟩] htab (fun z hz => nomatch hz) (by decide) (by decide) (X.1.2.2.2.2 _ tw_1121) (va_Nw.use (by decide +kernel) ((hGE _ _ _ X.2.2.2.2).1 _ (List.mem_of_getElem? (i := 5) rfl))) hc1 hc2 hc3 ?_
        refine lv_astore (lv' := [(4, .ref q9), (0, .ref a0), (1, .int a1), (2, .int a2), (3, .ref a3)]) hx hb dL_reason_13 hl (by decide) rfl (fun ls hl => ?_)
        refine lv_iconst (v := 1) hx hb dL_reason_15 (by decide) ?_
        exact vx_ret (q_retI X hH hr hlk hf (Nat.le_trans (Nat.le_add_right _ _) hB.1) (Nat.le_trans (Nat.le_add_right _ _) hB.2) dL_reason_16)
      · refine vx_catch X.1.2.2.2.1 [⟨0, 10, 13, 44⟩] ⟨0, 10, 17, 55⟩ [] htab (fun z hz => by rcases List.mem_singleton.mp hz with rfl; exact Or.inr ⟨(by decide), "java/lang/IllegalArgumentException", X.1.2.2.2.2 _ tw_1121, hGN _ _ _ X.2.2.2.2 _ (List.mem_of_getElem? (i := 3) rfl)⟩) (by decide) (by decide) (X.1.2.2.2.2 _ tw_1171) (va_Nw.use (by decide +kernel) ((hGE _ _ _ X.2.2.2.2).1 _ (List.mem_of_getElem? (i := 6) rfl))) hc1 hc2 hc3 ?_
        refine lv_astore (lv' := [(4, .ref q9), (0, .ref a0), (1, .int a1), (2, .int a2), (3, .ref a3)]) hx hb dL_reason_17 hl (by decide) rfl (fun ls hl => ?_)
        refine lv_iconst (v := 2) hx hb dL_reason_19 (by decide) ?_
        exact vx_ret (q_retI X hH hr hlk hf (Nat.le_trans (Nat.le_add_right _ _) hB.1) (Nat.le_trans (Nat.le_add_right _ _) hB.2) dL_reason_20)
    · refine lv_i2l (v := v3.toInt64) hx hb dL_reason_8 rfl ?_
      refine q_last X hH hf dL_reason_9 (fun S5 hf H locs hH => ?_)
      refine lv_goto (tgt := 21) hx hb dL_reason_10 (by decide) ?_
      refine lv_iconst (v := 0) hx hb dL_reason_21 (by decide) ?_
      exact vx_ret (q_retI X hH hr hlk hf (Nat.le_trans (Nat.le_add_right _ _) hB.1) (Nat.le_trans (Nat.le_add_right _ _) hB.2) dL_reason_22)
  exact main s.heap [] ls 0 0 mc ms hf hH hl ⟨by omega, by omega⟩
-- L_restore
def f_L_restore (S : PS) (a0 : Nat) (a1 : Nat) (bc bs : Nat) (post : Int32 → PS → Prop) : Prop :=
  isO S a0 11 (
  ∃ mc2 ms2 : Nat, mc2 ≤ bc ∧ ms2 ≤ bs ∧ (f_X7_restore S a0 mc2 ms2 (fun v3 S1 => (
    sL S1 a1 0 v3.toInt64 fun S5 => (
    post 0 S5))) (fun E4 S4 => (
  (E4 = "java/lang/IllegalStateException" ∧ (
    post 1 S4))))))
abbrev rm_L_restore (mc ms : Nat) : Room := { frames := 7, cells := mc, slots := ms, locals := 110 }
set_option maxHeartbeats 4000000 in
set_option maxRecDepth 100000 in
theorem c_L_restore (l : Launch) (D : va_G) (cy : Nat → ClassId) (G : p_GT) (hG : p_ok G) (hst : l.stackTraces = false) (hGE : ∀ (A : Nat → Prop) (U : State) (H : Heap), G A U H → p_Ex A U H) (S : PS) (a0 : Nat) (a1 : Nat) (mc ms : Nat) (post : Int32 → PS → Prop) (sz : Nat) (hf : f_L_restore S a0 a1 mc ms post) : p_Xi l D cy G S sz yL_restore (Cond.codeWith yL_restore cL_restore 3 (some .int) [(0, 8, 11, 91)] :: wG) (rm_L_restore mc ms) [.ref a0, .ref a1] mc ms post (fun _ _ => False) := by
  refine q_startH hG (Qc := fun A => va_Qi post (p_Post D cy A) A) (XC := fun A => p_XC D cy A (fun _ _ => False)) mw_L_restore (Nat.le_of_ble_eq_true rfl) (own := RL) rfl ?_
  intro p e s m below meth c A X hr hlk hnm htab ls hl hH
  have hx := X.1.1
  have hb := X.1.2.1
  replace hl : lv_has ls 3 [(0, .ref a0), (1, .ref a1)] := hl
  have main : ∀ (H : Heap) (locs : List Loc) (ls : Array Slot) (cells slots bc bs : Nat), f_L_restore S a0 a1 bc bs post → p_H D cy S A s H locs → lv_has ls 3 [(0, .ref a0), (1, .ref a1)] → cells + bc ≤ mc ∧ slots + bs ≤ ms → W p l e (rm_L_restore mc ms) s m [.ref a0, .ref a1].toArray below meth c H locs cells slots (vx_MQ below (va_Qi post (p_Post D cy A) A) (p_XC D cy A (fun _ _ => False)) [.ref a0, .ref a1].toArray s mc ms A) (F0 m 0 ls []) := by
    intro H locs ls cells slots bc bs hf hH hl hB
    refine lv_aload_n hx hb dL_restore_0 rfl (lv_at hl 1 rfl) ?_
    refine lv_iconst (v := 0) hx hb dL_restore_1 (by decide) ?_
    refine lv_aload_n hx hb dL_restore_2 rfl (lv_at hl 0 rfl) ?_
    obtain ⟨hb1, hb2, mc2, ms2, hm1, hs1, hf⟩ := hf
    refine q_callXi X hH hB hm1 hs1 (q_runVx [] [.int 0, .ref a1] X hH hl (c_X7_restore l D cy G X.2.2.2.1 hst hGE S a0 mc2 ms2 _ _ _ hf) mf_X7_restore mv_X7_restore tw_1594 ⟨Nat.le_of_ble_eq_true rfl, Nat.le_of_ble_eq_true rfl⟩ hb1 hb2 (T := TX7) (N := 12) rfl rfl (Nat.le_of_ble_eq_true rfl) dL_restore_3 ⟨Nat.le_trans (Nat.add_le_add_left hm1 _) hB.1, Nat.le_trans (Nat.add_le_add_left hs1 _) hB.2⟩) (fun E4 ce q9 S4 hf H locs cells slots hH hB hc1 hc2 hc3 => ?_) (fun v3 S1 hf H locs cells slots hH hB => ?_)
    · rcases hf with ⟨rfl, hf⟩
      · refine vx_catch X.1.2.2.2.1 [] ⟨0, 8, 11, 91⟩ [] htab (fun z hz => nomatch hz) (by decide) (by decide) (X.1.2.2.2.2 _ tw_1284) (va_Nw.use (by decide +kernel) ((hGE _ _ _ X.2.2.2.2).1 _ (List.mem_of_getElem? (i := 7) rfl))) hc1 hc2 hc3 ?_
        refine lv_astore_n (lv' := [(2, .ref q9), (0, .ref a0), (1, .ref a1)]) hx hb dL_restore_11 rfl hl (by decide) rfl (fun ls hl => ?_)
        refine lv_iconst (v := 1) hx hb dL_restore_12 (by decide) ?_
        exact vx_ret (q_retI X hH hr hlk hf (Nat.le_trans (Nat.le_add_right _ _) hB.1) (Nat.le_trans (Nat.le_add_right _ _) hB.2) dL_restore_13)
    · refine lv_i2l (v := v3.toInt64) hx hb dL_restore_6 rfl ?_
      refine q_last X hH hf dL_restore_7 (fun S5 hf H locs hH => ?_)
      refine lv_goto (tgt := 14) hx hb dL_restore_8 (by decide) ?_
      refine lv_iconst (v := 0) hx hb dL_restore_14 (by decide) ?_
      exact vx_ret (q_retI X hH hr hlk hf (Nat.le_trans (Nat.le_add_right _ _) hB.1) (Nat.le_trans (Nat.le_add_right _ _) hB.2) dL_restore_15)
  exact main s.heap [] ls 0 0 mc ms hf hH hl ⟨by omega, by omega⟩
-- L_householdOf
def f_L_householdOf (S : PS) (a0 : Nat) (a1 : Int32) (a2 : Int32) (a3 : Nat) (bc bs : Nat) (post : Int32 → PS → Prop) : Prop :=
  isO S a0 11 (
  ∃ mc2 ms2 : Nat, mc2 ≤ bc ∧ ms2 ≤ bs ∧ (f_X7_householdOf S a0 a1 a2 mc2 ms2 (fun v3 S1 => (
    sL S1 a3 0 v3.toInt64 fun S5 => (
    post 0 S5))) (fun E4 S4 => (
  (E4 = "java/lang/IndexOutOfBoundsException" ∧ (
    post 1 S4)) ∨
  (E4 = "java/lang/IllegalArgumentException" ∧ (
    post 2 S4))))))
abbrev rm_L_householdOf (mc ms : Nat) : Room := { frames := 7, cells := mc, slots := ms, locals := 112 }
set_option maxHeartbeats 4000000 in
set_option maxRecDepth 100000 in
theorem c_L_householdOf (l : Launch) (D : va_G) (cy : Nat → ClassId) (G : p_GT) (hG : p_ok G) (hst : l.stackTraces = false) (hGE : ∀ (A : Nat → Prop) (U : State) (H : Heap), G A U H → p_Ex A U H) (hGN : ∀ (A : Nat → Prop) (U : State) (H : Heap), G A U H → gN A U H) (S : PS) (a0 : Nat) (a1 : Int32) (a2 : Int32) (a3 : Nat) (mc ms : Nat) (post : Int32 → PS → Prop) (sz : Nat) (hf : f_L_householdOf S a0 a1 a2 a3 mc ms post) : p_Xi l D cy G S sz yL_householdOf (Cond.codeWith yL_householdOf cL_householdOf 5 (some .int) [(0, 10, 13, 39), (0, 10, 17, 44)] :: wG) (rm_L_householdOf mc ms) [.ref a0, .int a1, .int a2, .ref a3] mc ms post (fun _ _ => False) := by
  refine q_startH hG (Qc := fun A => va_Qi post (p_Post D cy A) A) (XC := fun A => p_XC D cy A (fun _ _ => False)) mw_L_householdOf (Nat.le_of_ble_eq_true rfl) (own := RL) rfl ?_
  intro p e s m below meth c A X hr hlk hnm htab ls hl hH
  have hx := X.1.1
  have hb := X.1.2.1
  replace hl : lv_has ls 5 [(0, .ref a0), (1, .int a1), (2, .int a2), (3, .ref a3)] := hl
  have main : ∀ (H : Heap) (locs : List Loc) (ls : Array Slot) (cells slots bc bs : Nat), f_L_householdOf S a0 a1 a2 a3 bc bs post → p_H D cy S A s H locs → lv_has ls 5 [(0, .ref a0), (1, .int a1), (2, .int a2), (3, .ref a3)] → cells + bc ≤ mc ∧ slots + bs ≤ ms → W p l e (rm_L_householdOf mc ms) s m [.ref a0, .int a1, .int a2, .ref a3].toArray below meth c H locs cells slots (vx_MQ below (va_Qi post (p_Post D cy A) A) (p_XC D cy A (fun _ _ => False)) [.ref a0, .int a1, .int a2, .ref a3].toArray s mc ms A) (F0 m 0 ls []) := by
    intro H locs ls cells slots bc bs hf hH hl hB
    refine lv_aload_n hx hb dL_householdOf_0 rfl (lv_at hl 3 rfl) ?_
    refine lv_iconst (v := 0) hx hb dL_householdOf_1 (by decide) ?_
    refine lv_aload_n hx hb dL_householdOf_2 rfl (lv_at hl 0 rfl) ?_
    refine lv_iload_n hx hb dL_householdOf_3 rfl (lv_at hl 1 rfl) ?_
    refine lv_iload_n hx hb dL_householdOf_4 rfl (lv_at hl 2 rfl) ?_
    obtain ⟨hb1, hb2, mc2, ms2, hm1, hs1, hf⟩ := hf
    refine q_callXi X hH hB hm1 hs1 (q_runVx [.int a1, .int a2] [.int 0, .ref a3] X hH hl (c_X7_householdOf l D cy G X.2.2.2.1 hst hGE S a0 a1 a2 mc2 ms2 _ _ _ hf) mf_X7_householdOf mv_X7_householdOf tw_1122 ⟨Nat.le_of_ble_eq_true rfl, Nat.le_of_ble_eq_true rfl⟩ hb1 hb2 (T := TX7) (N := 12) rfl rfl (Nat.le_of_ble_eq_true rfl) dL_householdOf_5 ⟨Nat.le_trans (Nat.add_le_add_left hm1 _) hB.1, Nat.le_trans (Nat.add_le_add_left hs1 _) hB.2⟩) (fun E4 ce q9 S4 hf H locs cells slots hH hB hc1 hc2 hc3 => ?_) (fun v3 S1 hf H locs cells slots hH hB => ?_)
    · rcases hf with ⟨rfl, hf⟩ | ⟨rfl, hf⟩
      · refine vx_catch X.1.2.2.2.1 [] ⟨0, 10, 13, 39⟩ [⟨0, 10, 17, 44⟩] htab (fun z hz => nomatch hz) (by decide) (by decide) (X.1.2.2.2.2 _ tw_1099) (va_Nw.use (by decide +kernel) ((hGE _ _ _ X.2.2.2.2).1 _ (List.mem_of_getElem? (i := 4) rfl))) hc1 hc2 hc3 ?_
        refine lv_astore (lv' := [(4, .ref q9), (0, .ref a0), (1, .int a1), (2, .int a2), (3, .ref a3)]) hx hb dL_householdOf_13 hl (by decide) rfl (fun ls hl => ?_)
        refine lv_iconst (v := 1) hx hb dL_householdOf_15 (by decide) ?_
        exact vx_ret (q_retI X hH hr hlk hf (Nat.le_trans (Nat.le_add_right _ _) hB.1) (Nat.le_trans (Nat.le_add_right _ _) hB.2) dL_householdOf_16)
      · refine vx_catch X.1.2.2.2.1 [⟨0, 10, 13, 39⟩] ⟨0, 10, 17, 44⟩ [] htab (fun z hz => by rcases List.mem_singleton.mp hz with rfl; exact Or.inr ⟨(by decide), "java/lang/IndexOutOfBoundsException", X.1.2.2.2.2 _ tw_1099, hGN _ _ _ X.2.2.2.2 _ (List.mem_of_getElem? (i := 0) rfl)⟩) (by decide) (by decide) (X.1.2.2.2.2 _ tw_1121) (va_Nw.use (by decide +kernel) ((hGE _ _ _ X.2.2.2.2).1 _ (List.mem_of_getElem? (i := 5) rfl))) hc1 hc2 hc3 ?_
        refine lv_astore (lv' := [(4, .ref q9), (0, .ref a0), (1, .int a1), (2, .int a2), (3, .ref a3)]) hx hb dL_householdOf_17 hl (by decide) rfl (fun ls hl => ?_)
        refine lv_iconst (v := 2) hx hb dL_householdOf_19 (by decide) ?_
        exact vx_ret (q_retI X hH hr hlk hf (Nat.le_trans (Nat.le_add_right _ _) hB.1) (Nat.le_trans (Nat.le_add_right _ _) hB.2) dL_householdOf_20)
    · refine lv_i2l (v := v3.toInt64) hx hb dL_householdOf_8 rfl ?_
      refine q_last X hH hf dL_householdOf_9 (fun S5 hf H locs hH => ?_)
      refine lv_goto (tgt := 21) hx hb dL_householdOf_10 (by decide) ?_
      refine lv_iconst (v := 0) hx hb dL_householdOf_21 (by decide) ?_
      exact vx_ret (q_retI X hH hr hlk hf (Nat.le_trans (Nat.le_add_right _ _) hB.1) (Nat.le_trans (Nat.le_add_right _ _) hB.2) dL_householdOf_22)
  exact main s.heap [] ls 0 0 mc ms hf hH hl ⟨by omega, by omega⟩
-- L_tied
def f_L_tied (S : PS) (a0 : Nat) (a1 : Int32) (a2 : Int32) (a3 : Nat) (bc bs : Nat) (post : Int32 → PS → Prop) : Prop :=
  isO S a0 11 (
  ∃ mc2 ms2 : Nat, mc2 ≤ bc ∧ ms2 ≤ bs ∧ (f_X7_tied S a0 a1 a2 mc2 ms2 (fun v3 S1 => (
    sL S1 a3 0 v3.toInt64 fun S5 => (
    post 0 S5))) (fun E4 S4 => (
  (E4 = "java/lang/IllegalArgumentException" ∧ (
    post 1 S4))))))
abbrev rm_L_tied (mc ms : Nat) : Room := { frames := 7, cells := mc, slots := ms, locals := 113 }
set_option maxHeartbeats 4000000 in
set_option maxRecDepth 100000 in
theorem c_L_tied (l : Launch) (D : va_G) (cy : Nat → ClassId) (G : p_GT) (hG : p_ok G) (hst : l.stackTraces = false) (hGE : ∀ (A : Nat → Prop) (U : State) (H : Heap), G A U H → p_Ex A U H) (S : PS) (a0 : Nat) (a1 : Int32) (a2 : Int32) (a3 : Nat) (mc ms : Nat) (post : Int32 → PS → Prop) (sz : Nat) (hf : f_L_tied S a0 a1 a2 a3 mc ms post) : p_Xi l D cy G S sz yL_tied (Cond.codeWith yL_tied cL_tied 5 (some .int) [(0, 10, 13, 44)] :: wG) (rm_L_tied mc ms) [.ref a0, .int a1, .int a2, .ref a3] mc ms post (fun _ _ => False) := by
  refine q_startH hG (Qc := fun A => va_Qi post (p_Post D cy A) A) (XC := fun A => p_XC D cy A (fun _ _ => False)) mw_L_tied (Nat.le_of_ble_eq_true rfl) (own := RL) rfl ?_
  intro p e s m below meth c A X hr hlk hnm htab ls hl hH
  have hx := X.1.1
  have hb := X.1.2.1
  replace hl : lv_has ls 5 [(0, .ref a0), (1, .int a1), (2, .int a2), (3, .ref a3)] := hl
  have main : ∀ (H : Heap) (locs : List Loc) (ls : Array Slot) (cells slots bc bs : Nat), f_L_tied S a0 a1 a2 a3 bc bs post → p_H D cy S A s H locs → lv_has ls 5 [(0, .ref a0), (1, .int a1), (2, .int a2), (3, .ref a3)] → cells + bc ≤ mc ∧ slots + bs ≤ ms → W p l e (rm_L_tied mc ms) s m [.ref a0, .int a1, .int a2, .ref a3].toArray below meth c H locs cells slots (vx_MQ below (va_Qi post (p_Post D cy A) A) (p_XC D cy A (fun _ _ => False)) [.ref a0, .int a1, .int a2, .ref a3].toArray s mc ms A) (F0 m 0 ls []) := by
    intro H locs ls cells slots bc bs hf hH hl hB
    refine lv_aload_n hx hb dL_tied_0 rfl (lv_at hl 3 rfl) ?_
    refine lv_iconst (v := 0) hx hb dL_tied_1 (by decide) ?_
    refine lv_aload_n hx hb dL_tied_2 rfl (lv_at hl 0 rfl) ?_
    refine lv_iload_n hx hb dL_tied_3 rfl (lv_at hl 1 rfl) ?_
    refine lv_iload_n hx hb dL_tied_4 rfl (lv_at hl 2 rfl) ?_
    obtain ⟨hb1, hb2, mc2, ms2, hm1, hs1, hf⟩ := hf
    refine q_callXi X hH hB hm1 hs1 (q_runVx [.int a1, .int a2] [.int 0, .ref a3] X hH hl (c_X7_tied l D cy G X.2.2.2.1 hst hGE S a0 a1 a2 mc2 ms2 _ _ _ hf) mf_X7_tied mv_X7_tied tw_1140 ⟨Nat.le_of_ble_eq_true rfl, Nat.le_of_ble_eq_true rfl⟩ hb1 hb2 (T := TX7) (N := 12) rfl rfl (Nat.le_of_ble_eq_true rfl) dL_tied_5 ⟨Nat.le_trans (Nat.add_le_add_left hm1 _) hB.1, Nat.le_trans (Nat.add_le_add_left hs1 _) hB.2⟩) (fun E4 ce q9 S4 hf H locs cells slots hH hB hc1 hc2 hc3 => ?_) (fun v3 S1 hf H locs cells slots hH hB => ?_)
    · rcases hf with ⟨rfl, hf⟩
      · refine vx_catch X.1.2.2.2.1 [] ⟨0, 10, 13, 44⟩ [] htab (fun z hz => nomatch hz) (by decide) (by decide) (X.1.2.2.2.2 _ tw_1121) (va_Nw.use (by decide +kernel) ((hGE _ _ _ X.2.2.2.2).1 _ (List.mem_of_getElem? (i := 5) rfl))) hc1 hc2 hc3 ?_
        refine lv_astore (lv' := [(4, .ref q9), (0, .ref a0), (1, .int a1), (2, .int a2), (3, .ref a3)]) hx hb dL_tied_13 hl (by decide) rfl (fun ls hl => ?_)
        refine lv_iconst (v := 1) hx hb dL_tied_15 (by decide) ?_
        exact vx_ret (q_retI X hH hr hlk hf (Nat.le_trans (Nat.le_add_right _ _) hB.1) (Nat.le_trans (Nat.le_add_right _ _) hB.2) dL_tied_16)
    · refine lv_i2l (v := v3.toInt64) hx hb dL_tied_8 rfl ?_
      refine q_last X hH hf dL_tied_9 (fun S5 hf H locs hH => ?_)
      refine lv_goto (tgt := 17) hx hb dL_tied_10 (by decide) ?_
      refine lv_iconst (v := 0) hx hb dL_tied_17 (by decide) ?_
      exact vx_ret (q_retI X hH hr hlk hf (Nat.le_trans (Nat.le_add_right _ _) hB.1) (Nat.le_trans (Nat.le_add_right _ _) hB.2) dL_tied_18)
  exact main s.heap [] ls 0 0 mc ms hf hH hl ⟨by omega, by omega⟩
-- L_bestMove
def f_L_bestMove (S : PS) (a0 : Nat) (a1 : Nat) (bc bs : Nat) (post : Int32 → PS → Prop) : Prop :=
  isO S a0 11 (
  ∃ mc2 ms2 : Nat, mc2 ≤ bc ∧ ms2 ≤ bs ∧ (f_X7_bestMove S a0 mc2 ms2 (fun v3 S1 => (
    sL S1 a1 0 v3.toInt64 fun S5 => (
    post 0 S5))) (fun E4 S4 => (
  (E4 = "java/util/NoSuchElementException" ∧ (
    post 1 S4))))))
abbrev rm_L_bestMove (mc ms : Nat) : Room := { frames := 7, cells := mc, slots := ms, locals := 127 }
set_option maxHeartbeats 4000000 in
set_option maxRecDepth 100000 in
theorem c_L_bestMove (l : Launch) (D : va_G) (cy : Nat → ClassId) (G : p_GT) (hG : p_ok G) (hst : l.stackTraces = false) (hGE : ∀ (A : Nat → Prop) (U : State) (H : Heap), G A U H → p_Ex A U H) (S : PS) (a0 : Nat) (a1 : Nat) (mc ms : Nat) (post : Int32 → PS → Prop) (sz : Nat) (hf : f_L_bestMove S a0 a1 mc ms post) : p_Xi l D cy G S sz yL_bestMove (Cond.codeWith yL_bestMove cL_bestMove 3 (some .int) [(0, 8, 11, 55)] :: wG) (rm_L_bestMove mc ms) [.ref a0, .ref a1] mc ms post (fun _ _ => False) := by
  refine q_startH hG (Qc := fun A => va_Qi post (p_Post D cy A) A) (XC := fun A => p_XC D cy A (fun _ _ => False)) mw_L_bestMove (Nat.le_of_ble_eq_true rfl) (own := RL) rfl ?_
  intro p e s m below meth c A X hr hlk hnm htab ls hl hH
  have hx := X.1.1
  have hb := X.1.2.1
  replace hl : lv_has ls 3 [(0, .ref a0), (1, .ref a1)] := hl
  have main : ∀ (H : Heap) (locs : List Loc) (ls : Array Slot) (cells slots bc bs : Nat), f_L_bestMove S a0 a1 bc bs post → p_H D cy S A s H locs → lv_has ls 3 [(0, .ref a0), (1, .ref a1)] → cells + bc ≤ mc ∧ slots + bs ≤ ms → W p l e (rm_L_bestMove mc ms) s m [.ref a0, .ref a1].toArray below meth c H locs cells slots (vx_MQ below (va_Qi post (p_Post D cy A) A) (p_XC D cy A (fun _ _ => False)) [.ref a0, .ref a1].toArray s mc ms A) (F0 m 0 ls []) := by
    intro H locs ls cells slots bc bs hf hH hl hB
    refine lv_aload_n hx hb dL_bestMove_0 rfl (lv_at hl 1 rfl) ?_
    refine lv_iconst (v := 0) hx hb dL_bestMove_1 (by decide) ?_
    refine lv_aload_n hx hb dL_bestMove_2 rfl (lv_at hl 0 rfl) ?_
    obtain ⟨hb1, hb2, mc2, ms2, hm1, hs1, hf⟩ := hf
    refine q_callXi X hH hB hm1 hs1 (q_runVx [] [.int 0, .ref a1] X hH hl (c_X7_bestMove l D cy G X.2.2.2.1 hst hGE S a0 mc2 ms2 _ _ _ hf) mf_X7_bestMove mv_X7_bestMove tw_1252 ⟨Nat.le_of_ble_eq_true rfl, Nat.le_of_ble_eq_true rfl⟩ hb1 hb2 (T := TX7) (N := 12) rfl rfl (Nat.le_of_ble_eq_true rfl) dL_bestMove_3 ⟨Nat.le_trans (Nat.add_le_add_left hm1 _) hB.1, Nat.le_trans (Nat.add_le_add_left hs1 _) hB.2⟩) (fun E4 ce q9 S4 hf H locs cells slots hH hB hc1 hc2 hc3 => ?_) (fun v3 S1 hf H locs cells slots hH hB => ?_)
    · rcases hf with ⟨rfl, hf⟩
      · refine vx_catch X.1.2.2.2.1 [] ⟨0, 8, 11, 55⟩ [] htab (fun z hz => nomatch hz) (by decide) (by decide) (X.1.2.2.2.2 _ tw_1171) (va_Nw.use (by decide +kernel) ((hGE _ _ _ X.2.2.2.2).1 _ (List.mem_of_getElem? (i := 6) rfl))) hc1 hc2 hc3 ?_
        refine lv_astore_n (lv' := [(2, .ref q9), (0, .ref a0), (1, .ref a1)]) hx hb dL_bestMove_11 rfl hl (by decide) rfl (fun ls hl => ?_)
        refine lv_iconst (v := 1) hx hb dL_bestMove_12 (by decide) ?_
        exact vx_ret (q_retI X hH hr hlk hf (Nat.le_trans (Nat.le_add_right _ _) hB.1) (Nat.le_trans (Nat.le_add_right _ _) hB.2) dL_bestMove_13)
    · refine lv_i2l (v := v3.toInt64) hx hb dL_bestMove_6 rfl ?_
      refine q_last X hH hf dL_bestMove_7 (fun S5 hf H locs hH => ?_)
      refine lv_goto (tgt := 14) hx hb dL_bestMove_8 (by decide) ?_
      refine lv_iconst (v := 0) hx hb dL_bestMove_14 (by decide) ?_
      exact vx_ret (q_retI X hH hr hlk hf (Nat.le_trans (Nat.le_add_right _ _) hB.1) (Nat.le_trans (Nat.le_add_right _ _) hB.2) dL_bestMove_15)
  exact main s.heap [] ls 0 0 mc ms hf hH hl ⟨by omega, by omega⟩
-- L_ifMoved
def f_L_ifMoved (S : PS) (a0 : Nat) (a1 : Int32) (a2 : Nat) (bc bs : Nat) (post : Int32 → PS → Prop) : Prop :=
  isO S a0 11 (
  ∃ mc2 ms2 : Nat, mc2 ≤ bc ∧ ms2 ≤ bs ∧ (f_X7_ifMoved S a0 a1 mc2 ms2 (fun v3 S1 => (
    sL S1 a2 0 v3.toInt64 fun S5 => (
    post 0 S5))) (fun E4 S4 => (
  (E4 = "java/lang/IndexOutOfBoundsException" ∧ (
    post 1 S4))))))
abbrev rm_L_ifMoved (mc ms : Nat) : Room := { frames := 7, cells := mc, slots := ms, locals := 126 }
set_option maxHeartbeats 4000000 in
set_option maxRecDepth 100000 in
theorem c_L_ifMoved (l : Launch) (D : va_G) (cy : Nat → ClassId) (G : p_GT) (hG : p_ok G) (hst : l.stackTraces = false) (hGE : ∀ (A : Nat → Prop) (U : State) (H : Heap), G A U H → p_Ex A U H) (S : PS) (a0 : Nat) (a1 : Int32) (a2 : Nat) (mc ms : Nat) (post : Int32 → PS → Prop) (sz : Nat) (hf : f_L_ifMoved S a0 a1 a2 mc ms post) : p_Xi l D cy G S sz yL_ifMoved (Cond.codeWith yL_ifMoved cL_ifMoved 4 (some .int) [(0, 9, 12, 39)] :: wG) (rm_L_ifMoved mc ms) [.ref a0, .int a1, .ref a2] mc ms post (fun _ _ => False) := by
  refine q_startH hG (Qc := fun A => va_Qi post (p_Post D cy A) A) (XC := fun A => p_XC D cy A (fun _ _ => False)) mw_L_ifMoved (Nat.le_of_ble_eq_true rfl) (own := RL) rfl ?_
  intro p e s m below meth c A X hr hlk hnm htab ls hl hH
  have hx := X.1.1
  have hb := X.1.2.1
  replace hl : lv_has ls 4 [(0, .ref a0), (1, .int a1), (2, .ref a2)] := hl
  have main : ∀ (H : Heap) (locs : List Loc) (ls : Array Slot) (cells slots bc bs : Nat), f_L_ifMoved S a0 a1 a2 bc bs post → p_H D cy S A s H locs → lv_has ls 4 [(0, .ref a0), (1, .int a1), (2, .ref a2)] → cells + bc ≤ mc ∧ slots + bs ≤ ms → W p l e (rm_L_ifMoved mc ms) s m [.ref a0, .int a1, .ref a2].toArray below meth c H locs cells slots (vx_MQ below (va_Qi post (p_Post D cy A) A) (p_XC D cy A (fun _ _ => False)) [.ref a0, .int a1, .ref a2].toArray s mc ms A) (F0 m 0 ls []) := by
    intro H locs ls cells slots bc bs hf hH hl hB
    refine lv_aload_n hx hb dL_ifMoved_0 rfl (lv_at hl 2 rfl) ?_
    refine lv_iconst (v := 0) hx hb dL_ifMoved_1 (by decide) ?_
    refine lv_aload_n hx hb dL_ifMoved_2 rfl (lv_at hl 0 rfl) ?_
    refine lv_iload_n hx hb dL_ifMoved_3 rfl (lv_at hl 1 rfl) ?_
    obtain ⟨hb1, hb2, mc2, ms2, hm1, hs1, hf⟩ := hf
    refine q_callXi X hH hB hm1 hs1 (q_runVx [.int a1] [.int 0, .ref a2] X hH hl (c_X7_ifMoved l D cy G X.2.2.2.1 hst hGE S a0 a1 mc2 ms2 _ _ _ hf) mf_X7_ifMoved mv_X7_ifMoved tw_1265 ⟨Nat.le_of_ble_eq_true rfl, Nat.le_of_ble_eq_true rfl⟩ hb1 hb2 (T := TX7) (N := 12) rfl rfl (Nat.le_of_ble_eq_true rfl) dL_ifMoved_4 ⟨Nat.le_trans (Nat.add_le_add_left hm1 _) hB.1, Nat.le_trans (Nat.add_le_add_left hs1 _) hB.2⟩) (fun E4 ce q9 S4 hf H locs cells slots hH hB hc1 hc2 hc3 => ?_) (fun v3 S1 hf H locs cells slots hH hB => ?_)
    · rcases hf with ⟨rfl, hf⟩
      · refine vx_catch X.1.2.2.2.1 [] ⟨0, 9, 12, 39⟩ [] htab (fun z hz => nomatch hz) (by decide) (by decide) (X.1.2.2.2.2 _ tw_1099) (va_Nw.use (by decide +kernel) ((hGE _ _ _ X.2.2.2.2).1 _ (List.mem_of_getElem? (i := 4) rfl))) hc1 hc2 hc3 ?_
        refine lv_astore_n (lv' := [(3, .ref q9), (0, .ref a0), (1, .int a1), (2, .ref a2)]) hx hb dL_ifMoved_12 rfl hl (by decide) rfl (fun ls hl => ?_)
        refine lv_iconst (v := 1) hx hb dL_ifMoved_13 (by decide) ?_
        exact vx_ret (q_retI X hH hr hlk hf (Nat.le_trans (Nat.le_add_right _ _) hB.1) (Nat.le_trans (Nat.le_add_right _ _) hB.2) dL_ifMoved_14)
    · refine lv_i2l (v := v3.toInt64) hx hb dL_ifMoved_7 rfl ?_
      refine q_last X hH hf dL_ifMoved_8 (fun S5 hf H locs hH => ?_)
      refine lv_goto (tgt := 15) hx hb dL_ifMoved_9 (by decide) ?_
      refine lv_iconst (v := 0) hx hb dL_ifMoved_15 (by decide) ?_
      exact vx_ret (q_retI X hH hr hlk hf (Nat.le_trans (Nat.le_add_right _ _) hB.1) (Nat.le_trans (Nat.le_add_right _ _) hB.2) dL_ifMoved_16)
  exact main s.heap [] ls 0 0 mc ms hf hH hl ⟨by omega, by omega⟩
-- L_partOf
def f_L_partOf (S : PS) (a0 : Nat) (a1 : Int32) (a2 : Nat) (bc bs : Nat) (post : Int32 → PS → Prop) : Prop :=
  isO S a0 11 (
  ∃ mc2 ms2 : Nat, mc2 ≤ bc ∧ ms2 ≤ bs ∧ (f_X7_partOf S a0 a1 mc2 ms2 (fun v3 S1 => (
    sL S1 a2 0 v3.toInt64 fun S5 => (
    post 0 S5))) (fun E4 S4 => (
  (E4 = "java/lang/IndexOutOfBoundsException" ∧ (
    post 1 S4))))))
abbrev rm_L_partOf (mc ms : Nat) : Room := { frames := 7, cells := mc, slots := ms, locals := 112 }
set_option maxHeartbeats 4000000 in
set_option maxRecDepth 100000 in
theorem c_L_partOf (l : Launch) (D : va_G) (cy : Nat → ClassId) (G : p_GT) (hG : p_ok G) (hst : l.stackTraces = false) (hGE : ∀ (A : Nat → Prop) (U : State) (H : Heap), G A U H → p_Ex A U H) (S : PS) (a0 : Nat) (a1 : Int32) (a2 : Nat) (mc ms : Nat) (post : Int32 → PS → Prop) (sz : Nat) (hf : f_L_partOf S a0 a1 a2 mc ms post) : p_Xi l D cy G S sz yL_partOf (Cond.codeWith yL_partOf cL_partOf 4 (some .int) [(0, 9, 12, 39)] :: wG) (rm_L_partOf mc ms) [.ref a0, .int a1, .ref a2] mc ms post (fun _ _ => False) := by
  refine q_startH hG (Qc := fun A => va_Qi post (p_Post D cy A) A) (XC := fun A => p_XC D cy A (fun _ _ => False)) mw_L_partOf (Nat.le_of_ble_eq_true rfl) (own := RL) rfl ?_
  intro p e s m below meth c A X hr hlk hnm htab ls hl hH
  have hx := X.1.1
  have hb := X.1.2.1
  replace hl : lv_has ls 4 [(0, .ref a0), (1, .int a1), (2, .ref a2)] := hl
  have main : ∀ (H : Heap) (locs : List Loc) (ls : Array Slot) (cells slots bc bs : Nat), f_L_partOf S a0 a1 a2 bc bs post → p_H D cy S A s H locs → lv_has ls 4 [(0, .ref a0), (1, .int a1), (2, .ref a2)] → cells + bc ≤ mc ∧ slots + bs ≤ ms → W p l e (rm_L_partOf mc ms) s m [.ref a0, .int a1, .ref a2].toArray below meth c H locs cells slots (vx_MQ below (va_Qi post (p_Post D cy A) A) (p_XC D cy A (fun _ _ => False)) [.ref a0, .int a1, .ref a2].toArray s mc ms A) (F0 m 0 ls []) := by
    intro H locs ls cells slots bc bs hf hH hl hB
    refine lv_aload_n hx hb dL_partOf_0 rfl (lv_at hl 2 rfl) ?_
    refine lv_iconst (v := 0) hx hb dL_partOf_1 (by decide) ?_
    refine lv_aload_n hx hb dL_partOf_2 rfl (lv_at hl 0 rfl) ?_
    refine lv_iload_n hx hb dL_partOf_3 rfl (lv_at hl 1 rfl) ?_
    obtain ⟨hb1, hb2, mc2, ms2, hm1, hs1, hf⟩ := hf
    refine q_callXi X hH hB hm1 hs1 (q_runVx [.int a1] [.int 0, .ref a2] X hH hl (c_X7_partOf l D cy G X.2.2.2.1 hst hGE S a0 a1 mc2 ms2 _ _ _ hf) mf_X7_partOf mv_X7_partOf tw_1308 ⟨Nat.le_of_ble_eq_true rfl, Nat.le_of_ble_eq_true rfl⟩ hb1 hb2 (T := TX7) (N := 12) rfl rfl (Nat.le_of_ble_eq_true rfl) dL_partOf_4 ⟨Nat.le_trans (Nat.add_le_add_left hm1 _) hB.1, Nat.le_trans (Nat.add_le_add_left hs1 _) hB.2⟩) (fun E4 ce q9 S4 hf H locs cells slots hH hB hc1 hc2 hc3 => ?_) (fun v3 S1 hf H locs cells slots hH hB => ?_)
    · rcases hf with ⟨rfl, hf⟩
      · refine vx_catch X.1.2.2.2.1 [] ⟨0, 9, 12, 39⟩ [] htab (fun z hz => nomatch hz) (by decide) (by decide) (X.1.2.2.2.2 _ tw_1099) (va_Nw.use (by decide +kernel) ((hGE _ _ _ X.2.2.2.2).1 _ (List.mem_of_getElem? (i := 4) rfl))) hc1 hc2 hc3 ?_
        refine lv_astore_n (lv' := [(3, .ref q9), (0, .ref a0), (1, .int a1), (2, .ref a2)]) hx hb dL_partOf_12 rfl hl (by decide) rfl (fun ls hl => ?_)
        refine lv_iconst (v := 1) hx hb dL_partOf_13 (by decide) ?_
        exact vx_ret (q_retI X hH hr hlk hf (Nat.le_trans (Nat.le_add_right _ _) hB.1) (Nat.le_trans (Nat.le_add_right _ _) hB.2) dL_partOf_14)
    · refine lv_i2l (v := v3.toInt64) hx hb dL_partOf_7 rfl ?_
      refine q_last X hH hf dL_partOf_8 (fun S5 hf H locs hH => ?_)
      refine lv_goto (tgt := 15) hx hb dL_partOf_9 (by decide) ?_
      refine lv_iconst (v := 0) hx hb dL_partOf_15 (by decide) ?_
      exact vx_ret (q_retI X hH hr hlk hf (Nat.le_trans (Nat.le_add_right _ _) hB.1) (Nat.le_trans (Nat.le_add_right _ _) hB.2) dL_partOf_16)
  exact main s.heap [] ls 0 0 mc ms hf hH hl ⟨by omega, by omega⟩
-- L_account
def f_L_account (S : PS) (a0 : Nat) (a1 : Int32) (a2 : Nat) (bc bs : Nat) (post : Int32 → PS → Prop) : Prop :=
  isO S a0 11 (
  ∃ mc2 ms2 : Nat, mc2 ≤ bc ∧ ms2 ≤ bs ∧ (f_X7_account S a0 a1 mc2 ms2 (fun v3 S1 => (
    sL S1 a2 0 v3.toInt64 fun S5 => (
    post 0 S5))) (fun E4 S4 => (
  (E4 = "java/lang/IllegalArgumentException" ∧ (
    post 1 S4))))))
abbrev rm_L_account (mc ms : Nat) : Room := { frames := 7, cells := mc, slots := ms, locals := 111 }
set_option maxHeartbeats 4000000 in
set_option maxRecDepth 100000 in
theorem c_L_account (l : Launch) (D : va_G) (cy : Nat → ClassId) (G : p_GT) (hG : p_ok G) (hst : l.stackTraces = false) (hGE : ∀ (A : Nat → Prop) (U : State) (H : Heap), G A U H → p_Ex A U H) (S : PS) (a0 : Nat) (a1 : Int32) (a2 : Nat) (mc ms : Nat) (post : Int32 → PS → Prop) (sz : Nat) (hf : f_L_account S a0 a1 a2 mc ms post) : p_Xi l D cy G S sz yL_account (Cond.codeWith yL_account cL_account 4 (some .int) [(0, 9, 12, 44)] :: wG) (rm_L_account mc ms) [.ref a0, .int a1, .ref a2] mc ms post (fun _ _ => False) := by
  refine q_startH hG (Qc := fun A => va_Qi post (p_Post D cy A) A) (XC := fun A => p_XC D cy A (fun _ _ => False)) mw_L_account (Nat.le_of_ble_eq_true rfl) (own := RL) rfl ?_
  intro p e s m below meth c A X hr hlk hnm htab ls hl hH
  have hx := X.1.1
  have hb := X.1.2.1
  replace hl : lv_has ls 4 [(0, .ref a0), (1, .int a1), (2, .ref a2)] := hl
  have main : ∀ (H : Heap) (locs : List Loc) (ls : Array Slot) (cells slots bc bs : Nat), f_L_account S a0 a1 a2 bc bs post → p_H D cy S A s H locs → lv_has ls 4 [(0, .ref a0), (1, .int a1), (2, .ref a2)] → cells + bc ≤ mc ∧ slots + bs ≤ ms → W p l e (rm_L_account mc ms) s m [.ref a0, .int a1, .ref a2].toArray below meth c H locs cells slots (vx_MQ below (va_Qi post (p_Post D cy A) A) (p_XC D cy A (fun _ _ => False)) [.ref a0, .int a1, .ref a2].toArray s mc ms A) (F0 m 0 ls []) := by
    intro H locs ls cells slots bc bs hf hH hl hB
    refine lv_aload_n hx hb dL_account_0 rfl (lv_at hl 2 rfl) ?_
    refine lv_iconst (v := 0) hx hb dL_account_1 (by decide) ?_
    refine lv_aload_n hx hb dL_account_2 rfl (lv_at hl 0 rfl) ?_
    refine lv_iload_n hx hb dL_account_3 rfl (lv_at hl 1 rfl) ?_
    obtain ⟨hb1, hb2, mc2, ms2, hm1, hs1, hf⟩ := hf
    refine q_callXi X hH hB hm1 hs1 (q_runVx [.int a1] [.int 0, .ref a2] X hH hl (c_X7_account l D cy G X.2.2.2.1 hst hGE S a0 a1 mc2 ms2 _ _ _ hf) mf_X7_account mv_X7_account tw_1522 ⟨Nat.le_of_ble_eq_true rfl, Nat.le_of_ble_eq_true rfl⟩ hb1 hb2 (T := TX7) (N := 12) rfl rfl (Nat.le_of_ble_eq_true rfl) dL_account_4 ⟨Nat.le_trans (Nat.add_le_add_left hm1 _) hB.1, Nat.le_trans (Nat.add_le_add_left hs1 _) hB.2⟩) (fun E4 ce q9 S4 hf H locs cells slots hH hB hc1 hc2 hc3 => ?_) (fun v3 S1 hf H locs cells slots hH hB => ?_)
    · rcases hf with ⟨rfl, hf⟩
      · refine vx_catch X.1.2.2.2.1 [] ⟨0, 9, 12, 44⟩ [] htab (fun z hz => nomatch hz) (by decide) (by decide) (X.1.2.2.2.2 _ tw_1121) (va_Nw.use (by decide +kernel) ((hGE _ _ _ X.2.2.2.2).1 _ (List.mem_of_getElem? (i := 5) rfl))) hc1 hc2 hc3 ?_
        refine lv_astore_n (lv' := [(3, .ref q9), (0, .ref a0), (1, .int a1), (2, .ref a2)]) hx hb dL_account_12 rfl hl (by decide) rfl (fun ls hl => ?_)
        refine lv_iconst (v := 1) hx hb dL_account_13 (by decide) ?_
        exact vx_ret (q_retI X hH hr hlk hf (Nat.le_trans (Nat.le_add_right _ _) hB.1) (Nat.le_trans (Nat.le_add_right _ _) hB.2) dL_account_14)
    · refine lv_i2l (v := v3.toInt64) hx hb dL_account_7 rfl ?_
      refine q_last X hH hf dL_account_8 (fun S5 hf H locs hH => ?_)
      refine lv_goto (tgt := 15) hx hb dL_account_9 (by decide) ?_
      refine lv_iconst (v := 0) hx hb dL_account_15 (by decide) ?_
      exact vx_ret (q_retI X hH hr hlk hf (Nat.le_trans (Nat.le_add_right _ _) hB.1) (Nat.le_trans (Nat.le_add_right _ _) hB.2) dL_account_16)
  exact main s.heap [] ls 0 0 mc ms hf hH hl ⟨by omega, by omega⟩
-- L_meanWeight
def f_L_meanWeight (S : PS) (a0 : Nat) (a1 : Nat) (bc bs : Nat) (post : Int32 → PS → Prop) : Prop :=
  isO S a0 11 (
  ∃ mc2 ms2 : Nat, mc2 ≤ bc ∧ ms2 ≤ bs ∧ (f_X7_meanWeight S a0 mc2 ms2 (fun v3 S1 => (
    sD S1 a1 0 v3 fun S5 => (
    post 0 S5))) (fun E4 S4 => (
  (E4 = "java/lang/ArithmeticException" ∧ (
    post 1 S4))))))
abbrev rm_L_meanWeight (mc ms : Nat) : Room := { frames := 7, cells := mc, slots := ms, locals := 111 }
set_option maxHeartbeats 4000000 in
set_option maxRecDepth 100000 in
theorem c_L_meanWeight (l : Launch) (D : va_G) (cy : Nat → ClassId) (G : p_GT) (hG : p_ok G) (hst : l.stackTraces = false) (hGE : ∀ (A : Nat → Prop) (U : State) (H : Heap), G A U H → p_Ex A U H) (S : PS) (a0 : Nat) (a1 : Nat) (mc ms : Nat) (post : Int32 → PS → Prop) (sz : Nat) (hf : f_L_meanWeight S a0 a1 mc ms post) : p_Xi l D cy G S sz yL_meanWeight (Cond.codeWith yL_meanWeight cL_meanWeight 3 (some .int) [(0, 7, 10, 130)] :: wG) (rm_L_meanWeight mc ms) [.ref a0, .ref a1] mc ms post (fun _ _ => False) := by
  refine q_startH hG (Qc := fun A => va_Qi post (p_Post D cy A) A) (XC := fun A => p_XC D cy A (fun _ _ => False)) mw_L_meanWeight (Nat.le_of_ble_eq_true rfl) (own := RL) rfl ?_
  intro p e s m below meth c A X hr hlk hnm htab ls hl hH
  have hx := X.1.1
  have hb := X.1.2.1
  replace hl : lv_has ls 3 [(0, .ref a0), (1, .ref a1)] := hl
  have main : ∀ (H : Heap) (locs : List Loc) (ls : Array Slot) (cells slots bc bs : Nat), f_L_meanWeight S a0 a1 bc bs post → p_H D cy S A s H locs → lv_has ls 3 [(0, .ref a0), (1, .ref a1)] → cells + bc ≤ mc ∧ slots + bs ≤ ms → W p l e (rm_L_meanWeight mc ms) s m [.ref a0, .ref a1].toArray below meth c H locs cells slots (vx_MQ below (va_Qi post (p_Post D cy A) A) (p_XC D cy A (fun _ _ => False)) [.ref a0, .ref a1].toArray s mc ms A) (F0 m 0 ls []) := by
    intro H locs ls cells slots bc bs hf hH hl hB
    refine lv_aload_n hx hb dL_meanWeight_0 rfl (lv_at hl 1 rfl) ?_
    refine lv_iconst (v := 0) hx hb dL_meanWeight_1 (by decide) ?_
    refine lv_aload_n hx hb dL_meanWeight_2 rfl (lv_at hl 0 rfl) ?_
    obtain ⟨hb1, hb2, mc2, ms2, hm1, hs1, hf⟩ := hf
    refine q_callXd X hH hB hm1 hs1 (q_runVx [] [.int 0, .ref a1] X hH hl (c_X7_meanWeight l D cy G X.2.2.2.1 hst hGE S a0 mc2 ms2 _ _ _ hf) mf_X7_meanWeight mv_X7_meanWeight tw_1566 ⟨Nat.le_of_ble_eq_true rfl, Nat.le_of_ble_eq_true rfl⟩ hb1 hb2 (T := TX7) (N := 12) rfl rfl (Nat.le_of_ble_eq_true rfl) dL_meanWeight_3 ⟨Nat.le_trans (Nat.add_le_add_left hm1 _) hB.1, Nat.le_trans (Nat.add_le_add_left hs1 _) hB.2⟩) (fun E4 ce q9 S4 hf H locs cells slots hH hB hc1 hc2 hc3 => ?_) (fun v3 S1 hf H locs cells slots hH hB => ?_)
    · rcases hf with ⟨rfl, hf⟩
      · refine vx_catch X.1.2.2.2.1 [] ⟨0, 7, 10, 130⟩ [] htab (fun z hz => nomatch hz) (by decide) (by decide) (X.1.2.2.2.2 _ tw_1552) (va_Nw.use (by decide +kernel) ((hGE _ _ _ X.2.2.2.2).1 _ (List.mem_of_getElem? (i := 8) rfl))) hc1 hc2 hc3 ?_
        refine lv_astore_n (lv' := [(2, .ref q9), (0, .ref a0), (1, .ref a1)]) hx hb dL_meanWeight_10 rfl hl (by decide) rfl (fun ls hl => ?_)
        refine lv_iconst (v := 1) hx hb dL_meanWeight_11 (by decide) ?_
        exact vx_ret (q_retI X hH hr hlk hf (Nat.le_trans (Nat.le_add_right _ _) hB.1) (Nat.le_trans (Nat.le_add_right _ _) hB.2) dL_meanWeight_12)
    · refine q_dast X hH hf dL_meanWeight_6 (fun S5 hf H locs hH => ?_)
      refine lv_goto (tgt := 13) hx hb dL_meanWeight_7 (by decide) ?_
      refine lv_iconst (v := 0) hx hb dL_meanWeight_13 (by decide) ?_
      exact vx_ret (q_retI X hH hr hlk hf (Nat.le_trans (Nat.le_add_right _ _) hB.1) (Nat.le_trans (Nat.le_add_right _ _) hB.2) dL_meanWeight_14)
  exact main s.heap [] ls 0 0 mc ms hf hH hl ⟨by omega, by omega⟩
-- L_feudShare
def f_L_feudShare (S : PS) (a0 : Nat) (a1 : Nat) (bc bs : Nat) (post : Int32 → PS → Prop) : Prop :=
  isO S a0 11 (
  ∃ mc2 ms2 : Nat, mc2 ≤ bc ∧ ms2 ≤ bs ∧ (f_X7_feudShare S a0 mc2 ms2 (fun v3 S1 => (
    vf_n64 (FP.f2d v3) ∧ (
    sD S1 a1 0 (FP.f2d v3) fun S5 => (
    post 0 S5)))) (fun E4 S4 => (
  (E4 = "java/lang/ArithmeticException" ∧ (
    post 1 S4))))))
abbrev rm_L_feudShare (mc ms : Nat) : Room := { frames := 7, cells := mc, slots := ms, locals := 111 }
set_option maxHeartbeats 4000000 in
set_option maxRecDepth 100000 in
theorem c_L_feudShare (l : Launch) (D : va_G) (cy : Nat → ClassId) (G : p_GT) (hG : p_ok G) (hst : l.stackTraces = false) (hGE : ∀ (A : Nat → Prop) (U : State) (H : Heap), G A U H → p_Ex A U H) (S : PS) (a0 : Nat) (a1 : Nat) (mc ms : Nat) (post : Int32 → PS → Prop) (sz : Nat) (hf : f_L_feudShare S a0 a1 mc ms post) : p_Xi l D cy G S sz yL_feudShare (Cond.codeWith yL_feudShare cL_feudShare 3 (some .int) [(0, 8, 11, 130)] :: wG) (rm_L_feudShare mc ms) [.ref a0, .ref a1] mc ms post (fun _ _ => False) := by
  refine q_startH hG (Qc := fun A => va_Qi post (p_Post D cy A) A) (XC := fun A => p_XC D cy A (fun _ _ => False)) mw_L_feudShare (Nat.le_of_ble_eq_true rfl) (own := RL) rfl ?_
  intro p e s m below meth c A X hr hlk hnm htab ls hl hH
  have hx := X.1.1
  have hb := X.1.2.1
  replace hl : lv_has ls 3 [(0, .ref a0), (1, .ref a1)] := hl
  have main : ∀ (H : Heap) (locs : List Loc) (ls : Array Slot) (cells slots bc bs : Nat), f_L_feudShare S a0 a1 bc bs post → p_H D cy S A s H locs → lv_has ls 3 [(0, .ref a0), (1, .ref a1)] → cells + bc ≤ mc ∧ slots + bs ≤ ms → W p l e (rm_L_feudShare mc ms) s m [.ref a0, .ref a1].toArray below meth c H locs cells slots (vx_MQ below (va_Qi post (p_Post D cy A) A) (p_XC D cy A (fun _ _ => False)) [.ref a0, .ref a1].toArray s mc ms A) (F0 m 0 ls []) := by
    intro H locs ls cells slots bc bs hf hH hl hB
    refine lv_aload_n hx hb dL_feudShare_0 rfl (lv_at hl 1 rfl) ?_
    refine lv_iconst (v := 0) hx hb dL_feudShare_1 (by decide) ?_
    refine lv_aload_n hx hb dL_feudShare_2 rfl (lv_at hl 0 rfl) ?_
    obtain ⟨hb1, hb2, mc2, ms2, hm1, hs1, hf⟩ := hf
    refine q_callXf X hH hB hm1 hs1 (q_runVx [] [.int 0, .ref a1] X hH hl (c_X7_feudShare l D cy G X.2.2.2.1 hst hGE S a0 mc2 ms2 _ _ _ hf) mf_X7_feudShare mv_X7_feudShare tw_1575 ⟨Nat.le_of_ble_eq_true rfl, Nat.le_of_ble_eq_true rfl⟩ hb1 hb2 (T := TX7) (N := 12) rfl rfl (Nat.le_of_ble_eq_true rfl) dL_feudShare_3 ⟨Nat.le_trans (Nat.add_le_add_left hm1 _) hB.1, Nat.le_trans (Nat.add_le_add_left hs1 _) hB.2⟩) (fun E4 ce q9 S4 hf H locs cells slots hH hB hc1 hc2 hc3 => ?_) (fun v3 S1 hf H locs cells slots hH hB => ?_)
    · rcases hf with ⟨rfl, hf⟩
      · refine vx_catch X.1.2.2.2.1 [] ⟨0, 8, 11, 130⟩ [] htab (fun z hz => nomatch hz) (by decide) (by decide) (X.1.2.2.2.2 _ tw_1552) (va_Nw.use (by decide +kernel) ((hGE _ _ _ X.2.2.2.2).1 _ (List.mem_of_getElem? (i := 8) rfl))) hc1 hc2 hc3 ?_
        refine lv_astore_n (lv' := [(2, .ref q9), (0, .ref a0), (1, .ref a1)]) hx hb dL_feudShare_11 rfl hl (by decide) rfl (fun ls hl => ?_)
        refine lv_iconst (v := 1) hx hb dL_feudShare_12 (by decide) ?_
        exact vx_ret (q_retI X hH hr hlk hf (Nat.le_trans (Nat.le_add_right _ _) hB.1) (Nat.le_trans (Nat.le_add_right _ _) hB.2) dL_feudShare_13)
    · refine lv_f2d hx hb dL_feudShare_6 hf.1 ?_
      have hf := hf.2
      refine q_dast X hH hf dL_feudShare_7 (fun S5 hf H locs hH => ?_)
      refine lv_goto (tgt := 14) hx hb dL_feudShare_8 (by decide) ?_
      refine lv_iconst (v := 0) hx hb dL_feudShare_14 (by decide) ?_
      exact vx_ret (q_retI X hH hr hlk hf (Nat.le_trans (Nat.le_add_right _ _) hB.1) (Nat.le_trans (Nat.le_add_right _ _) hB.2) dL_feudShare_15)
  exact main s.heap [] ls 0 0 mc ms hf hH hl ⟨by omega, by omega⟩
-- L_undo
def f_L_undo (S : PS) (a0 : Nat) (a1 : Nat) (bc bs : Nat) (post : Int32 → PS → Prop) : Prop :=
  isO S a0 11 (
  ∃ mc2 ms2 : Nat, mc2 ≤ bc ∧ ms2 ≤ bs ∧ (f_X7_undo S a0 mc2 ms2 (fun v3 S1 => (
    sL S1 a1 0 v3.toInt64 fun S5 => (
    post 0 S5))) (fun E4 S4 => (
  (E4 = "java/lang/IllegalStateException" ∧ (
    post 1 S4))))))
abbrev rm_L_undo (mc ms : Nat) : Room := { frames := 7, cells := mc, slots := ms, locals := 123 }
set_option maxHeartbeats 4000000 in
set_option maxRecDepth 100000 in
theorem c_L_undo (l : Launch) (D : va_G) (cy : Nat → ClassId) (G : p_GT) (hG : p_ok G) (hst : l.stackTraces = false) (hGE : ∀ (A : Nat → Prop) (U : State) (H : Heap), G A U H → p_Ex A U H) (S : PS) (a0 : Nat) (a1 : Nat) (mc ms : Nat) (post : Int32 → PS → Prop) (sz : Nat) (hf : f_L_undo S a0 a1 mc ms post) : p_Xi l D cy G S sz yL_undo (Cond.codeWith yL_undo cL_undo 3 (some .int) [(0, 8, 11, 91)] :: wG) (rm_L_undo mc ms) [.ref a0, .ref a1] mc ms post (fun _ _ => False) := by
  refine q_startH hG (Qc := fun A => va_Qi post (p_Post D cy A) A) (XC := fun A => p_XC D cy A (fun _ _ => False)) mw_L_undo (Nat.le_of_ble_eq_true rfl) (own := RL) rfl ?_
  intro p e s m below meth c A X hr hlk hnm htab ls hl hH
  have hx := X.1.1
  have hb := X.1.2.1
  replace hl : lv_has ls 3 [(0, .ref a0), (1, .ref a1)] := hl
  have main : ∀ (H : Heap) (locs : List Loc) (ls : Array Slot) (cells slots bc bs : Nat), f_L_undo S a0 a1 bc bs post → p_H D cy S A s H locs → lv_has ls 3 [(0, .ref a0), (1, .ref a1)] → cells + bc ≤ mc ∧ slots + bs ≤ ms → W p l e (rm_L_undo mc ms) s m [.ref a0, .ref a1].toArray below meth c H locs cells slots (vx_MQ below (va_Qi post (p_Post D cy A) A) (p_XC D cy A (fun _ _ => False)) [.ref a0, .ref a1].toArray s mc ms A) (F0 m 0 ls []) := by
    intro H locs ls cells slots bc bs hf hH hl hB
    refine lv_aload_n hx hb dL_undo_0 rfl (lv_at hl 1 rfl) ?_
    refine lv_iconst (v := 0) hx hb dL_undo_1 (by decide) ?_
    refine lv_aload_n hx hb dL_undo_2 rfl (lv_at hl 0 rfl) ?_
    obtain ⟨hb1, hb2, mc2, ms2, hm1, hs1, hf⟩ := hf
    refine q_callXi X hH hB hm1 hs1 (q_runVx [] [.int 0, .ref a1] X hH hl (c_X7_undo l D cy G X.2.2.2.1 hst hGE S a0 mc2 ms2 _ _ _ hf) mf_X7_undo mv_X7_undo tw_1582 ⟨Nat.le_of_ble_eq_true rfl, Nat.le_of_ble_eq_true rfl⟩ hb1 hb2 (T := TX7) (N := 12) rfl rfl (Nat.le_of_ble_eq_true rfl) dL_undo_3 ⟨Nat.le_trans (Nat.add_le_add_left hm1 _) hB.1, Nat.le_trans (Nat.add_le_add_left hs1 _) hB.2⟩) (fun E4 ce q9 S4 hf H locs cells slots hH hB hc1 hc2 hc3 => ?_) (fun v3 S1 hf H locs cells slots hH hB => ?_)
    · rcases hf with ⟨rfl, hf⟩
      · refine vx_catch X.1.2.2.2.1 [] ⟨0, 8, 11, 91⟩ [] htab (fun z hz => nomatch hz) (by decide) (by decide) (X.1.2.2.2.2 _ tw_1284) (va_Nw.use (by decide +kernel) ((hGE _ _ _ X.2.2.2.2).1 _ (List.mem_of_getElem? (i := 7) rfl))) hc1 hc2 hc3 ?_
        refine lv_astore_n (lv' := [(2, .ref q9), (0, .ref a0), (1, .ref a1)]) hx hb dL_undo_11 rfl hl (by decide) rfl (fun ls hl => ?_)
        refine lv_iconst (v := 1) hx hb dL_undo_12 (by decide) ?_
        exact vx_ret (q_retI X hH hr hlk hf (Nat.le_trans (Nat.le_add_right _ _) hB.1) (Nat.le_trans (Nat.le_add_right _ _) hB.2) dL_undo_13)
    · refine lv_i2l (v := v3.toInt64) hx hb dL_undo_6 rfl ?_
      refine q_last X hH hf dL_undo_7 (fun S5 hf H locs hH => ?_)
      refine lv_goto (tgt := 14) hx hb dL_undo_8 (by decide) ?_
      refine lv_iconst (v := 0) hx hb dL_undo_14 (by decide) ?_
      exact vx_ret (q_retI X hH hr hlk hf (Nat.le_trans (Nat.le_add_right _ _) hB.1) (Nat.le_trans (Nat.le_add_right _ _) hB.2) dL_undo_15)
  exact main s.heap [] ls 0 0 mc ms hf hH hl ⟨by omega, by omega⟩
-- L_leastAgain
def f_L_leastAgain (S : PS) (a0 : Nat) (a1 : Nat) (bc bs : Nat) (post : Int32 → PS → Prop) : Prop :=
  isO S a0 11 (
  ∃ mc2 ms2 : Nat, mc2 ≤ bc ∧ ms2 ≤ bs ∧ (f_X7_leastAgain S a0 mc2 ms2 (fun v3 S1 => (
    sL S1 a1 0 v3.toInt64 fun S5 => (
    post 0 S5))) (fun E4 S4 => (
  (E4 = "java/util/NoSuchElementException" ∧ (
    post 1 S4))))))
abbrev rm_L_leastAgain (mc ms : Nat) : Room := { frames := 7, cells := mc, slots := ms, locals := 111 }
set_option maxHeartbeats 4000000 in
set_option maxRecDepth 100000 in
theorem c_L_leastAgain (l : Launch) (D : va_G) (cy : Nat → ClassId) (G : p_GT) (hG : p_ok G) (hst : l.stackTraces = false) (hGE : ∀ (A : Nat → Prop) (U : State) (H : Heap), G A U H → p_Ex A U H) (S : PS) (a0 : Nat) (a1 : Nat) (mc ms : Nat) (post : Int32 → PS → Prop) (sz : Nat) (hf : f_L_leastAgain S a0 a1 mc ms post) : p_Xi l D cy G S sz yL_leastAgain (Cond.codeWith yL_leastAgain cL_leastAgain 3 (some .int) [(0, 8, 11, 55)] :: wG) (rm_L_leastAgain mc ms) [.ref a0, .ref a1] mc ms post (fun _ _ => False) := by
  refine q_startH hG (Qc := fun A => va_Qi post (p_Post D cy A) A) (XC := fun A => p_XC D cy A (fun _ _ => False)) mw_L_leastAgain (Nat.le_of_ble_eq_true rfl) (own := RL) rfl ?_
  intro p e s m below meth c A X hr hlk hnm htab ls hl hH
  have hx := X.1.1
  have hb := X.1.2.1
  replace hl : lv_has ls 3 [(0, .ref a0), (1, .ref a1)] := hl
  have main : ∀ (H : Heap) (locs : List Loc) (ls : Array Slot) (cells slots bc bs : Nat), f_L_leastAgain S a0 a1 bc bs post → p_H D cy S A s H locs → lv_has ls 3 [(0, .ref a0), (1, .ref a1)] → cells + bc ≤ mc ∧ slots + bs ≤ ms → W p l e (rm_L_leastAgain mc ms) s m [.ref a0, .ref a1].toArray below meth c H locs cells slots (vx_MQ below (va_Qi post (p_Post D cy A) A) (p_XC D cy A (fun _ _ => False)) [.ref a0, .ref a1].toArray s mc ms A) (F0 m 0 ls []) := by
    intro H locs ls cells slots bc bs hf hH hl hB
    refine lv_aload_n hx hb dL_leastAgain_0 rfl (lv_at hl 1 rfl) ?_
    refine lv_iconst (v := 0) hx hb dL_leastAgain_1 (by decide) ?_
    refine lv_aload_n hx hb dL_leastAgain_2 rfl (lv_at hl 0 rfl) ?_
    obtain ⟨hb1, hb2, mc2, ms2, hm1, hs1, hf⟩ := hf
    refine q_callXi X hH hB hm1 hs1 (q_runVx [] [.int 0, .ref a1] X hH hl (c_X7_leastAgain l D cy G X.2.2.2.1 hst hGE S a0 mc2 ms2 _ _ _ hf) mf_X7_leastAgain mv_X7_leastAgain tw_1211 ⟨Nat.le_of_ble_eq_true rfl, Nat.le_of_ble_eq_true rfl⟩ hb1 hb2 (T := TX7) (N := 12) rfl rfl (Nat.le_of_ble_eq_true rfl) dL_leastAgain_3 ⟨Nat.le_trans (Nat.add_le_add_left hm1 _) hB.1, Nat.le_trans (Nat.add_le_add_left hs1 _) hB.2⟩) (fun E4 ce q9 S4 hf H locs cells slots hH hB hc1 hc2 hc3 => ?_) (fun v3 S1 hf H locs cells slots hH hB => ?_)
    · rcases hf with ⟨rfl, hf⟩
      · refine vx_catch X.1.2.2.2.1 [] ⟨0, 8, 11, 55⟩ [] htab (fun z hz => nomatch hz) (by decide) (by decide) (X.1.2.2.2.2 _ tw_1171) (va_Nw.use (by decide +kernel) ((hGE _ _ _ X.2.2.2.2).1 _ (List.mem_of_getElem? (i := 6) rfl))) hc1 hc2 hc3 ?_
        refine lv_astore_n (lv' := [(2, .ref q9), (0, .ref a0), (1, .ref a1)]) hx hb dL_leastAgain_11 rfl hl (by decide) rfl (fun ls hl => ?_)
        refine lv_iconst (v := 1) hx hb dL_leastAgain_12 (by decide) ?_
        exact vx_ret (q_retI X hH hr hlk hf (Nat.le_trans (Nat.le_add_right _ _) hB.1) (Nat.le_trans (Nat.le_add_right _ _) hB.2) dL_leastAgain_13)
    · refine lv_i2l (v := v3.toInt64) hx hb dL_leastAgain_6 rfl ?_
      refine q_last X hH hf dL_leastAgain_7 (fun S5 hf H locs hH => ?_)
      refine lv_goto (tgt := 14) hx hb dL_leastAgain_8 (by decide) ?_
      refine lv_iconst (v := 0) hx hb dL_leastAgain_14 (by decide) ?_
      exact vx_ret (q_retI X hH hr hlk hf (Nat.le_trans (Nat.le_add_right _ _) hB.1) (Nat.le_trans (Nat.le_add_right _ _) hB.2) dL_leastAgain_15)
  exact main s.heap [] ls 0 0 mc ms hf hH hl ⟨by omega, by omega⟩
-- L_leastSides
def f_L_leastSides (S : PS) (a0 : Nat) (a1 : Nat) (bc bs : Nat) (post : Int32 → PS → Prop) : Prop :=
  isO S a0 11 (
  ∃ mc2 ms2 : Nat, mc2 ≤ bc ∧ ms2 ≤ bs ∧ (f_X7_leastSides S a0 mc2 ms2 (fun v3 S1 => (
    sL S1 a1 0 v3.toInt64 fun S5 => (
    post 0 S5))) (fun E4 S4 => (
  (E4 = "java/util/NoSuchElementException" ∧ (
    post 1 S4))))))
abbrev rm_L_leastSides (mc ms : Nat) : Room := { frames := 7, cells := mc, slots := ms, locals := 111 }
set_option maxHeartbeats 4000000 in
set_option maxRecDepth 100000 in
theorem c_L_leastSides (l : Launch) (D : va_G) (cy : Nat → ClassId) (G : p_GT) (hG : p_ok G) (hst : l.stackTraces = false) (hGE : ∀ (A : Nat → Prop) (U : State) (H : Heap), G A U H → p_Ex A U H) (S : PS) (a0 : Nat) (a1 : Nat) (mc ms : Nat) (post : Int32 → PS → Prop) (sz : Nat) (hf : f_L_leastSides S a0 a1 mc ms post) : p_Xi l D cy G S sz yL_leastSides (Cond.codeWith yL_leastSides cL_leastSides 3 (some .int) [(0, 8, 11, 55)] :: wG) (rm_L_leastSides mc ms) [.ref a0, .ref a1] mc ms post (fun _ _ => False) := by
  refine q_startH hG (Qc := fun A => va_Qi post (p_Post D cy A) A) (XC := fun A => p_XC D cy A (fun _ _ => False)) mw_L_leastSides (Nat.le_of_ble_eq_true rfl) (own := RL) rfl ?_
  intro p e s m below meth c A X hr hlk hnm htab ls hl hH
  have hx := X.1.1
  have hb := X.1.2.1
  replace hl : lv_has ls 3 [(0, .ref a0), (1, .ref a1)] := hl
  have main : ∀ (H : Heap) (locs : List Loc) (ls : Array Slot) (cells slots bc bs : Nat), f_L_leastSides S a0 a1 bc bs post → p_H D cy S A s H locs → lv_has ls 3 [(0, .ref a0), (1, .ref a1)] → cells + bc ≤ mc ∧ slots + bs ≤ ms → W p l e (rm_L_leastSides mc ms) s m [.ref a0, .ref a1].toArray below meth c H locs cells slots (vx_MQ below (va_Qi post (p_Post D cy A) A) (p_XC D cy A (fun _ _ => False)) [.ref a0, .ref a1].toArray s mc ms A) (F0 m 0 ls []) := by
    intro H locs ls cells slots bc bs hf hH hl hB
    refine lv_aload_n hx hb dL_leastSides_0 rfl (lv_at hl 1 rfl) ?_
    refine lv_iconst (v := 0) hx hb dL_leastSides_1 (by decide) ?_
    refine lv_aload_n hx hb dL_leastSides_2 rfl (lv_at hl 0 rfl) ?_
    obtain ⟨hb1, hb2, mc2, ms2, hm1, hs1, hf⟩ := hf
    refine q_callXi X hH hB hm1 hs1 (q_runVx [] [.int 0, .ref a1] X hH hl (c_X7_leastSides l D cy G X.2.2.2.1 hst hGE S a0 mc2 ms2 _ _ _ hf) mf_X7_leastSides mv_X7_leastSides tw_1225 ⟨Nat.le_of_ble_eq_true rfl, Nat.le_of_ble_eq_true rfl⟩ hb1 hb2 (T := TX7) (N := 12) rfl rfl (Nat.le_of_ble_eq_true rfl) dL_leastSides_3 ⟨Nat.le_trans (Nat.add_le_add_left hm1 _) hB.1, Nat.le_trans (Nat.add_le_add_left hs1 _) hB.2⟩) (fun E4 ce q9 S4 hf H locs cells slots hH hB hc1 hc2 hc3 => ?_) (fun v3 S1 hf H locs cells slots hH hB => ?_)
    · rcases hf with ⟨rfl, hf⟩
      · refine vx_catch X.1.2.2.2.1 [] ⟨0, 8, 11, 55⟩ [] htab (fun z hz => nomatch hz) (by decide) (by decide) (X.1.2.2.2.2 _ tw_1171) (va_Nw.use (by decide +kernel) ((hGE _ _ _ X.2.2.2.2).1 _ (List.mem_of_getElem? (i := 6) rfl))) hc1 hc2 hc3 ?_
        refine lv_astore_n (lv' := [(2, .ref q9), (0, .ref a0), (1, .ref a1)]) hx hb dL_leastSides_11 rfl hl (by decide) rfl (fun ls hl => ?_)
        refine lv_iconst (v := 1) hx hb dL_leastSides_12 (by decide) ?_
        exact vx_ret (q_retI X hH hr hlk hf (Nat.le_trans (Nat.le_add_right _ _) hB.1) (Nat.le_trans (Nat.le_add_right _ _) hB.2) dL_leastSides_13)
    · refine lv_i2l (v := v3.toInt64) hx hb dL_leastSides_6 rfl ?_
      refine q_last X hH hf dL_leastSides_7 (fun S5 hf H locs hH => ?_)
      refine lv_goto (tgt := 14) hx hb dL_leastSides_8 (by decide) ?_
      refine lv_iconst (v := 0) hx hb dL_leastSides_14 (by decide) ?_
      exact vx_ret (q_retI X hH hr hlk hf (Nat.le_trans (Nat.le_add_right _ _) hB.1) (Nat.le_trans (Nat.le_add_right _ _) hB.2) dL_leastSides_15)
  exact main s.heap [] ls 0 0 mc ms hf hH hl ⟨by omega, by omega⟩
-- L_between
def f_L_between (S : PS) (a0 : Nat) (a1 : Int32) (a2 : Int32) (a3 : Nat) (bc bs : Nat) (post : Int32 → PS → Prop) : Prop :=
  isO S a0 11 (
  ∃ mc2 ms2 : Nat, mc2 ≤ bc ∧ ms2 ≤ bs ∧ (f_X7_between S a0 a1 a2 mc2 ms2 (fun v3 S1 => (
    sL S1 a3 0 v3.toInt64 fun S5 => (
    post 0 S5))) (fun E4 S4 => (
  (E4 = "java/lang/IndexOutOfBoundsException" ∧ (
    post 1 S4)) ∨
  (E4 = "java/lang/IllegalArgumentException" ∧ (
    post 2 S4))))))
abbrev rm_L_between (mc ms : Nat) : Room := { frames := 7, cells := mc, slots := ms, locals := 113 }
set_option maxHeartbeats 4000000 in
set_option maxRecDepth 100000 in
theorem c_L_between (l : Launch) (D : va_G) (cy : Nat → ClassId) (G : p_GT) (hG : p_ok G) (hst : l.stackTraces = false) (hGE : ∀ (A : Nat → Prop) (U : State) (H : Heap), G A U H → p_Ex A U H) (hGN : ∀ (A : Nat → Prop) (U : State) (H : Heap), G A U H → gN A U H) (S : PS) (a0 : Nat) (a1 : Int32) (a2 : Int32) (a3 : Nat) (mc ms : Nat) (post : Int32 → PS → Prop) (sz : Nat) (hf : f_L_between S a0 a1 a2 a3 mc ms post) : p_Xi l D cy G S sz yL_between (Cond.codeWith yL_between cL_between 5 (some .int) [(0, 10, 13, 39), (0, 10, 17, 44)] :: wG) (rm_L_between mc ms) [.ref a0, .int a1, .int a2, .ref a3] mc ms post (fun _ _ => False) := by
  refine q_startH hG (Qc := fun A => va_Qi post (p_Post D cy A) A) (XC := fun A => p_XC D cy A (fun _ _ => False)) mw_L_between (Nat.le_of_ble_eq_true rfl) (own := RL) rfl ?_
  intro p e s m below meth c A X hr hlk hnm htab ls hl hH
  have hx := X.1.1
  have hb := X.1.2.1
  replace hl : lv_has ls 5 [(0, .ref a0), (1, .int a1), (2, .int a2), (3, .ref a3)] := hl
  have main : ∀ (H : Heap) (locs : List Loc) (ls : Array Slot) (cells slots bc bs : Nat), f_L_between S a0 a1 a2 a3 bc bs post → p_H D cy S A s H locs → lv_has ls 5 [(0, .ref a0), (1, .int a1), (2, .int a2), (3, .ref a3)] → cells + bc ≤ mc ∧ slots + bs ≤ ms → W p l e (rm_L_between mc ms) s m [.ref a0, .int a1, .int a2, .ref a3].toArray below meth c H locs cells slots (vx_MQ below (va_Qi post (p_Post D cy A) A) (p_XC D cy A (fun _ _ => False)) [.ref a0, .int a1, .int a2, .ref a3].toArray s mc ms A) (F0 m 0 ls []) := by
    intro H locs ls cells slots bc bs hf hH hl hB
    refine lv_aload_n hx hb dL_between_0 rfl (lv_at hl 3 rfl) ?_
    refine lv_iconst (v := 0) hx hb dL_between_1 (by decide) ?_
    refine lv_aload_n hx hb dL_between_2 rfl (lv_at hl 0 rfl) ?_
    refine lv_iload_n hx hb dL_between_3 rfl (lv_at hl 1 rfl) ?_
    refine lv_iload_n hx hb dL_between_4 rfl (lv_at hl 2 rfl) ?_
    obtain ⟨hb1, hb2, mc2, ms2, hm1, hs1, hf⟩ := hf
    refine q_callXi X hH hB hm1 hs1 (q_runVx [.int a1, .int a2] [.int 0, .ref a3] X hH hl (c_X7_between l D cy G X.2.2.2.1 hst hGE S a0 a1 a2 mc2 ms2 _ _ _ hf) mf_X7_between mv_X7_between tw_1237 ⟨Nat.le_of_ble_eq_true rfl, Nat.le_of_ble_eq_true rfl⟩ hb1 hb2 (T := TX7) (N := 12) rfl rfl (Nat.le_of_ble_eq_true rfl) dL_between_5 ⟨Nat.le_trans (Nat.add_le_add_left hm1 _) hB.1, Nat.le_trans (Nat.add_le_add_left hs1 _) hB.2⟩) (fun E4 ce q9 S4 hf H locs cells slots hH hB hc1 hc2 hc3 => ?_) (fun v3 S1 hf H locs cells slots hH hB => ?_)
    · rcases hf with ⟨rfl, hf⟩ | ⟨rfl, hf⟩
      · refine vx_catch X.1.2.2.2.1 [] ⟨0, 10, 13, 39⟩ [⟨0, 10, 17, 44⟩] htab (fun z hz => nomatch hz) (by decide) (by decide) (X.1.2.2.2.2 _ tw_1099) (va_Nw.use (by decide +kernel) ((hGE _ _ _ X.2.2.2.2).1 _ (List.mem_of_getElem? (i := 4) rfl))) hc1 hc2 hc3 ?_
        refine lv_astore (lv' := [(4, .ref q9), (0, .ref a0), (1, .int a1), (2, .int a2), (3, .ref a3)]) hx hb dL_between_13 hl (by decide) rfl (fun ls hl => ?_)
        refine lv_iconst (v := 1) hx hb dL_between_15 (by decide) ?_
        exact vx_ret (q_retI X hH hr hlk hf (Nat.le_trans (Nat.le_add_right _ _) hB.1) (Nat.le_trans (Nat.le_add_right _ _) hB.2) dL_between_16)
      · refine vx_catch X.1.2.2.2.1 [⟨0, 10, 13, 39⟩] ⟨0, 10, 17, 44⟩ [] htab (fun z hz => by rcases List.mem_singleton.mp hz with rfl; exact Or.inr ⟨(by decide), "java/lang/IndexOutOfBoundsException", X.1.2.2.2.2 _ tw_1099, hGN _ _ _ X.2.2.2.2 _ (List.mem_of_getElem? (i := 0) rfl)⟩) (by decide) (by decide) (X.1.2.2.2.2 _ tw_1121) (va_Nw.use (by decide +kernel) ((hGE _ _ _ X.2.2.2.2).1 _ (List.mem_of_getElem? (i := 5) rfl))) hc1 hc2 hc3 ?_
        refine lv_astore (lv' := [(4, .ref q9), (0, .ref a0), (1, .int a1), (2, .int a2), (3, .ref a3)]) hx hb dL_between_17 hl (by decide) rfl (fun ls hl => ?_)
        refine lv_iconst (v := 2) hx hb dL_between_19 (by decide) ?_
        exact vx_ret (q_retI X hH hr hlk hf (Nat.le_trans (Nat.le_add_right _ _) hB.1) (Nat.le_trans (Nat.le_add_right _ _) hB.2) dL_between_20)
    · refine lv_i2l (v := v3.toInt64) hx hb dL_between_8 rfl ?_
      refine q_last X hH hf dL_between_9 (fun S5 hf H locs hH => ?_)
      refine lv_goto (tgt := 21) hx hb dL_between_10 (by decide) ?_
      refine lv_iconst (v := 0) hx hb dL_between_21 (by decide) ?_
      exact vx_ret (q_retI X hH hr hlk hf (Nat.le_trans (Nat.le_add_right _ _) hB.1) (Nat.le_trans (Nat.le_add_right _ _) hB.2) dL_between_22)
  exact main s.heap [] ls 0 0 mc ms hf hH hl ⟨by omega, by omega⟩
-- L_phaseOf
def f_L_phaseOf (S : PS) (a0 : Nat) (a1 : Int32) (a2 : Int32) (a3 : Nat) (bc bs : Nat) (post : Int32 → PS → Prop) : Prop :=
  isO S a0 11 (
  ∃ mc2 ms2 : Nat, mc2 ≤ bc ∧ ms2 ≤ bs ∧ (f_X7_phaseOf S a0 a1 a2 mc2 ms2 (fun v3 S1 => (
    sL S1 a3 0 v3.toInt64 fun S5 => (
    post 0 S5))) (fun E4 S4 => (
  (E4 = "java/lang/IndexOutOfBoundsException" ∧ (
    post 1 S4)) ∨
  (E4 = "java/lang/IllegalArgumentException" ∧ (
    post 2 S4))))))
abbrev rm_L_phaseOf (mc ms : Nat) : Room := { frames := 7, cells := mc, slots := ms, locals := 117 }
set_option maxHeartbeats 4000000 in
set_option maxRecDepth 100000 in
theorem c_L_phaseOf (l : Launch) (D : va_G) (cy : Nat → ClassId) (G : p_GT) (hG : p_ok G) (hst : l.stackTraces = false) (hGE : ∀ (A : Nat → Prop) (U : State) (H : Heap), G A U H → p_Ex A U H) (hGN : ∀ (A : Nat → Prop) (U : State) (H : Heap), G A U H → gN A U H) (S : PS) (a0 : Nat) (a1 : Int32) (a2 : Int32) (a3 : Nat) (mc ms : Nat) (post : Int32 → PS → Prop) (sz : Nat) (hf : f_L_phaseOf S a0 a1 a2 a3 mc ms post) : p_Xi l D cy G S sz yL_phaseOf (Cond.codeWith yL_phaseOf cL_phaseOf 5 (some .int) [(0, 10, 13, 39), (0, 10, 17, 44)] :: wG) (rm_L_phaseOf mc ms) [.ref a0, .int a1, .int a2, .ref a3] mc ms post (fun _ _ => False) := by
  refine q_startH hG (Qc := fun A => va_Qi post (p_Post D cy A) A) (XC := fun A => p_XC D cy A (fun _ _ => False)) mw_L_phaseOf (Nat.le_of_ble_eq_true rfl) (own := RL) rfl ?_
  intro p e s m below meth c A X hr hlk hnm htab ls hl hH
  have hx := X.1.1
  have hb := X.1.2.1
  replace hl : lv_has ls 5 [(0, .ref a0), (1, .int a1), (2, .int a2), (3, .ref a3)] := hl
  have main : ∀ (H : Heap) (locs : List Loc) (ls : Array Slot) (cells slots bc bs : Nat), f_L_phaseOf S a0 a1 a2 a3 bc bs post → p_H D cy S A s H locs → lv_has ls 5 [(0, .ref a0), (1, .int a1), (2, .int a2), (3, .ref a3)] → cells + bc ≤ mc ∧ slots + bs ≤ ms → W p l e (rm_L_phaseOf mc ms) s m [.ref a0, .int a1, .int a2, .ref a3].toArray below meth c H locs cells slots (vx_MQ below (va_Qi post (p_Post D cy A) A) (p_XC D cy A (fun _ _ => False)) [.ref a0, .int a1, .int a2, .ref a3].toArray s mc ms A) (F0 m 0 ls []) := by
    intro H locs ls cells slots bc bs hf hH hl hB
    refine lv_aload_n hx hb dL_phaseOf_0 rfl (lv_at hl 3 rfl) ?_
    refine lv_iconst (v := 0) hx hb dL_phaseOf_1 (by decide) ?_
    refine lv_aload_n hx hb dL_phaseOf_2 rfl (lv_at hl 0 rfl) ?_
    refine lv_iload_n hx hb dL_phaseOf_3 rfl (lv_at hl 1 rfl) ?_
    refine lv_iload_n hx hb dL_phaseOf_4 rfl (lv_at hl 2 rfl) ?_
    obtain ⟨hb1, hb2, mc2, ms2, hm1, hs1, hf⟩ := hf
    refine q_callXi X hH hB hm1 hs1 (q_runVx [.int a1, .int a2] [.int 0, .ref a3] X hH hl (c_X7_phaseOf l D cy G X.2.2.2.1 hst hGE S a0 a1 a2 mc2 ms2 _ _ _ hf) mf_X7_phaseOf mv_X7_phaseOf tw_1156 ⟨Nat.le_of_ble_eq_true rfl, Nat.le_of_ble_eq_true rfl⟩ hb1 hb2 (T := TX7) (N := 12) rfl rfl (Nat.le_of_ble_eq_true rfl) dL_phaseOf_5 ⟨Nat.le_trans (Nat.add_le_add_left hm1 _) hB.1, Nat.le_trans (Nat.add_le_add_left hs1 _) hB.2⟩) (fun E4 ce q9 S4 hf H locs cells slots hH hB hc1 hc2 hc3 => ?_) (fun v3 S1 hf H locs cells slots hH hB => ?_)
    · rcases hf with ⟨rfl, hf⟩ | ⟨rfl, hf⟩
      · refine vx_catch X.1.2.2.2.1 [] ⟨0, 10, 13, 39⟩ [⟨0, 10, 17, 44⟩] htab (fun z hz => nomatch hz) (by decide) (by decide) (X.1.2.2.2.2 _ tw_1099) (va_Nw.use (by decide +kernel) ((hGE _ _ _ X.2.2.2.2).1 _ (List.mem_of_getElem? (i := 4) rfl))) hc1 hc2 hc3 ?_
        refine lv_astore (lv' := [(4, .ref q9), (0, .ref a0), (1, .int a1), (2, .int a2), (3, .ref a3)]) hx hb dL_phaseOf_13 hl (by decide) rfl (fun ls hl => ?_)
        refine lv_iconst (v := 1) hx hb dL_phaseOf_15 (by decide) ?_
        exact vx_ret (q_retI X hH hr hlk hf (Nat.le_trans (Nat.le_add_right _ _) hB.1) (Nat.le_trans (Nat.le_add_right _ _) hB.2) dL_phaseOf_16)
      · refine vx_catch X.1.2.2.2.1 [⟨0, 10, 13, 39⟩] ⟨0, 10, 17, 44⟩ [] htab (fun z hz => by rcases List.mem_singleton.mp hz with rfl; exact Or.inr ⟨(by decide), "java/lang/IndexOutOfBoundsException", X.1.2.2.2.2 _ tw_1099, hGN _ _ _ X.2.2.2.2 _ (List.mem_of_getElem? (i := 0) rfl)⟩) (by decide) (by decide) (X.1.2.2.2.2 _ tw_1121) (va_Nw.use (by decide +kernel) ((hGE _ _ _ X.2.2.2.2).1 _ (List.mem_of_getElem? (i := 5) rfl))) hc1 hc2 hc3 ?_
        refine lv_astore (lv' := [(4, .ref q9), (0, .ref a0), (1, .int a1), (2, .int a2), (3, .ref a3)]) hx hb dL_phaseOf_17 hl (by decide) rfl (fun ls hl => ?_)
        refine lv_iconst (v := 2) hx hb dL_phaseOf_19 (by decide) ?_
        exact vx_ret (q_retI X hH hr hlk hf (Nat.le_trans (Nat.le_add_right _ _) hB.1) (Nat.le_trans (Nat.le_add_right _ _) hB.2) dL_phaseOf_20)
    · refine lv_i2l (v := v3.toInt64) hx hb dL_phaseOf_8 rfl ?_
      refine q_last X hH hf dL_phaseOf_9 (fun S5 hf H locs hH => ?_)
      refine lv_goto (tgt := 21) hx hb dL_phaseOf_10 (by decide) ?_
      refine lv_iconst (v := 0) hx hb dL_phaseOf_21 (by decide) ?_
      exact vx_ret (q_retI X hH hr hlk hf (Nat.le_trans (Nat.le_add_right _ _) hB.1) (Nat.le_trans (Nat.le_add_right _ _) hB.2) dL_phaseOf_22)
  exact main s.heap [] ls 0 0 mc ms hf hH hl ⟨by omega, by omega⟩
-- L_joined
def f_L_joined (S : PS) (a0 : Nat) (a1 : Int32) (a2 : Int32) (a3 : Nat) (bc bs : Nat) (post : Int32 → PS → Prop) : Prop :=
  isO S a0 11 (
  ∃ mc2 ms2 : Nat, mc2 ≤ bc ∧ ms2 ≤ bs ∧ (f_X7_joined S a0 a1 a2 mc2 ms2 (fun v3 S1 => (
    sL S1 a3 0 v3.toInt64 fun S5 => (
    post 0 S5))) (fun E4 S4 => (
  (E4 = "java/lang/IndexOutOfBoundsException" ∧ (
    post 1 S4)) ∨
  (E4 = "java/util/NoSuchElementException" ∧ (
    post 2 S4))))))
abbrev rm_L_joined (mc ms : Nat) : Room := { frames := 7, cells := mc, slots := ms, locals := 116 }
set_option maxHeartbeats 4000000 in
set_option maxRecDepth 100000 in
theorem c_L_joined (l : Launch) (D : va_G) (cy : Nat → ClassId) (G : p_GT) (hG : p_ok G) (hst : l.stackTraces = false) (hGE : ∀ (A : Nat → Prop) (U : State) (H : Heap), G A U H → p_Ex A U H) (hGN : ∀ (A : Nat → Prop) (U : State) (H : Heap), G A U H → gN A U H) (S : PS) (a0 : Nat) (a1 : Int32) (a2 : Int32) (a3 : Nat) (mc ms : Nat) (post : Int32 → PS → Prop) (sz : Nat) (hf : f_L_joined S a0 a1 a2 a3 mc ms post) : p_Xi l D cy G S sz yL_joined (Cond.codeWith yL_joined cL_joined 5 (some .int) [(0, 10, 13, 39), (0, 10, 17, 55)] :: wG) (rm_L_joined mc ms) [.ref a0, .int a1, .int a2, .ref a3] mc ms post (fun _ _ => False) := by
  refine q_startH hG (Qc := fun A => va_Qi post (p_Post D cy A) A) (XC := fun A => p_XC D cy A (fun _ _ => False)) mw_L_joined (Nat.le_of_ble_eq_true rfl) (own := RL) rfl ?_
  intro p e s m below meth c A X hr hlk hnm htab ls hl hH
  have hx := X.1.1
  have hb := X.1.2.1
  replace hl : lv_has ls 5 [(0, .ref a0), (1, .int a1), (2, .int a2), (3, .ref a3)] := hl
  have main : ∀ (H : Heap) (locs : List Loc) (ls : Array Slot) (cells slots bc bs : Nat), f_L_joined S a0 a1 a2 a3 bc bs post → p_H D cy S A s H locs → lv_has ls 5 [(0, .ref a0), (1, .int a1), (2, .int a2), (3, .ref a3)] → cells + bc ≤ mc ∧ slots + bs ≤ ms → W p l e (rm_L_joined mc ms) s m [.ref a0, .int a1, .int a2, .ref a3].toArray below meth c H locs cells slots (vx_MQ below (va_Qi post (p_Post D cy A) A) (p_XC D cy A (fun _ _ => False)) [.ref a0, .int a1, .int a2, .ref a3].toArray s mc ms A) (F0 m 0 ls []) := by
    intro H locs ls cells slots bc bs hf hH hl hB
    refine lv_aload_n hx hb dL_joined_0 rfl (lv_at hl 3 rfl) ?_
    refine lv_iconst (v := 0) hx hb dL_joined_1 (by decide) ?_
    refine lv_aload_n hx hb dL_joined_2 rfl (lv_at hl 0 rfl) ?_
    refine lv_iload_n hx hb dL_joined_3 rfl (lv_at hl 1 rfl) ?_
    refine lv_iload_n hx hb dL_joined_4 rfl (lv_at hl 2 rfl) ?_
    obtain ⟨hb1, hb2, mc2, ms2, hm1, hs1, hf⟩ := hf
    refine q_callXi X hH hB hm1 hs1 (q_runVx [.int a1, .int a2] [.int 0, .ref a3] X hH hl (c_X7_joined l D cy G X.2.2.2.1 hst hGE S a0 a1 a2 mc2 ms2 _ _ _ hf) mf_X7_joined mv_X7_joined tw_1172 ⟨Nat.le_of_ble_eq_true rfl, Nat.le_of_ble_eq_true rfl⟩ hb1 hb2 (T := TX7) (N := 12) rfl rfl (Nat.le_of_ble_eq_true rfl) dL_joined_5 ⟨Nat.le_trans (Nat.add_le_add_left hm1 _) hB.1, Nat.le_trans (Nat.add_le_add_left hs1 _) hB.2⟩) (fun E4 ce q9 S4 hf H locs cells slots hH hB hc1 hc2 hc3 => ?_) (fun v3 S1 hf H locs cells slots hH hB => ?_)
    · rcases hf with ⟨rfl, hf⟩ | ⟨rfl, hf⟩
      · refine vx_catch X.1.2.2.2.1 [] ⟨0, 10, 13, 39⟩ [⟨0, 10, 17, 55⟩] htab (fun z hz => nomatch hz) (by decide) (by decide) (X.1.2.2.2.2 _ tw_1099) (va_Nw.use (by decide +kernel) ((hGE _ _ _ X.2.2.2.2).1 _ (List.mem_of_getElem? (i := 4) rfl))) hc1 hc2 hc3 ?_
        refine lv_astore (lv' := [(4, .ref q9), (0, .ref a0), (1, .int a1), (2, .int a2), (3, .ref a3)]) hx hb dL_joined_13 hl (by decide) rfl (fun ls hl => ?_)
        refine lv_iconst (v := 1) hx hb dL_joined_15 (by decide) ?_
        exact vx_ret (q_retI X hH hr hlk hf (Nat.le_trans (Nat.le_add_right _ _) hB.1) (Nat.le_trans (Nat.le_add_right _ _) hB.2) dL_joined_16)
      · refine vx_catch X.1.2.2.2.1 [⟨0, 10, 13, 39⟩] ⟨0, 10, 17, 55⟩ [] htab (fun z hz => by rcases List.mem_singleton.mp hz with rfl; exact Or.inr ⟨(by decide), "java/lang/IndexOutOfBoundsException", X.1.2.2.2.2 _ tw_1099, hGN _ _ _ X.2.2.2.2 _ (List.mem_of_getElem? (i := 1) rfl)⟩) (by decide) (by decide) (X.1.2.2.2.2 _ tw_1171) (va_Nw.use (by decide +kernel) ((hGE _ _ _ X.2.2.2.2).1 _ (List.mem_of_getElem? (i := 6) rfl))) hc1 hc2 hc3 ?_
        refine lv_astore (lv' := [(4, .ref q9), (0, .ref a0), (1, .int a1), (2, .int a2), (3, .ref a3)]) hx hb dL_joined_17 hl (by decide) rfl (fun ls hl => ?_)
        refine lv_iconst (v := 2) hx hb dL_joined_19 (by decide) ?_
        exact vx_ret (q_retI X hH hr hlk hf (Nat.le_trans (Nat.le_add_right _ _) hB.1) (Nat.le_trans (Nat.le_add_right _ _) hB.2) dL_joined_20)
    · refine lv_i2l (v := v3.toInt64) hx hb dL_joined_8 rfl ?_
      refine q_last X hH hf dL_joined_9 (fun S5 hf H locs hH => ?_)
      refine lv_goto (tgt := 21) hx hb dL_joined_10 (by decide) ?_
      refine lv_iconst (v := 0) hx hb dL_joined_21 (by decide) ?_
      exact vx_ret (q_retI X hH hr hlk hf (Nat.le_trans (Nat.le_add_right _ _) hB.1) (Nat.le_trans (Nat.le_add_right _ _) hB.2) dL_joined_22)
  exact main s.heap [] ls 0 0 mc ms hf hH hl ⟨by omega, by omega⟩
-- L_tieAt
def f_L_tieAt (S : PS) (a0 : Nat) (a1 : Int32) (a2 : Int32) (a3 : Nat) (bc bs : Nat) (post : Int32 → PS → Prop) : Prop :=
  isO S a0 11 (
  ∃ mc2 ms2 : Nat, mc2 ≤ bc ∧ ms2 ≤ bs ∧ (f_X7_tieAt S a0 a1 a2 mc2 ms2 (fun v3 S1 => (
    sL S1 a3 0 v3.toInt64 fun S5 => (
    post 0 S5))) (fun E4 S4 => (
  (E4 = "java/lang/IndexOutOfBoundsException" ∧ (
    post 1 S4)) ∨
  (E4 = "java/util/NoSuchElementException" ∧ (
    post 2 S4))))))
abbrev rm_L_tieAt (mc ms : Nat) : Room := { frames := 7, cells := mc, slots := ms, locals := 116 }
set_option maxHeartbeats 4000000 in
set_option maxRecDepth 100000 in
theorem c_L_tieAt (l : Launch) (D : va_G) (cy : Nat → ClassId) (G : p_GT) (hG : p_ok G) (hst : l.stackTraces = false) (hGE : ∀ (A : Nat → Prop) (U : State) (H : Heap), G A U H → p_Ex A U H) (hGN : ∀ (A : Nat → Prop) (U : State) (H : Heap), G A U H → gN A U H) (S : PS) (a0 : Nat) (a1 : Int32) (a2 : Int32) (a3 : Nat) (mc ms : Nat) (post : Int32 → PS → Prop) (sz : Nat) (hf : f_L_tieAt S a0 a1 a2 a3 mc ms post) : p_Xi l D cy G S sz yL_tieAt (Cond.codeWith yL_tieAt cL_tieAt 5 (some .int) [(0, 10, 13, 39), (0, 10, 17, 55)] :: wG) (rm_L_tieAt mc ms) [.ref a0, .int a1, .int a2, .ref a3] mc ms post (fun _ _ => False) := by
  refine q_startH hG (Qc := fun A => va_Qi post (p_Post D cy A) A) (XC := fun A => p_XC D cy A (fun _ _ => False)) mw_L_tieAt (Nat.le_of_ble_eq_true rfl) (own := RL) rfl ?_
  intro p e s m below meth c A X hr hlk hnm htab ls hl hH
  have hx := X.1.1
  have hb := X.1.2.1
  replace hl : lv_has ls 5 [(0, .ref a0), (1, .int a1), (2, .int a2), (3, .ref a3)] := hl
  have main : ∀ (H : Heap) (locs : List Loc) (ls : Array Slot) (cells slots bc bs : Nat), f_L_tieAt S a0 a1 a2 a3 bc bs post → p_H D cy S A s H locs → lv_has ls 5 [(0, .ref a0), (1, .int a1), (2, .int a2), (3, .ref a3)] → cells + bc ≤ mc ∧ slots + bs ≤ ms → W p l e (rm_L_tieAt mc ms) s m [.ref a0, .int a1, .int a2, .ref a3].toArray below meth c H locs cells slots (vx_MQ below (va_Qi post (p_Post D cy A) A) (p_XC D cy A (fun _ _ => False)) [.ref a0, .int a1, .int a2, .ref a3].toArray s mc ms A) (F0 m 0 ls []) := by
    intro H locs ls cells slots bc bs hf hH hl hB
    refine lv_aload_n hx hb dL_tieAt_0 rfl (lv_at hl 3 rfl) ?_
    refine lv_iconst (v := 0) hx hb dL_tieAt_1 (by decide) ?_
    refine lv_aload_n hx hb dL_tieAt_2 rfl (lv_at hl 0 rfl) ?_
    refine lv_iload_n hx hb dL_tieAt_3 rfl (lv_at hl 1 rfl) ?_
    refine lv_iload_n hx hb dL_tieAt_4 rfl (lv_at hl 2 rfl) ?_
    obtain ⟨hb1, hb2, mc2, ms2, hm1, hs1, hf⟩ := hf
    refine q_callXi X hH hB hm1 hs1 (q_runVx [.int a1, .int a2] [.int 0, .ref a3] X hH hl (c_X7_tieAt l D cy G X.2.2.2.1 hst hGE S a0 a1 a2 mc2 ms2 _ _ _ hf) mf_X7_tieAt mv_X7_tieAt tw_1196 ⟨Nat.le_of_ble_eq_true rfl, Nat.le_of_ble_eq_true rfl⟩ hb1 hb2 (T := TX7) (N := 12) rfl rfl (Nat.le_of_ble_eq_true rfl) dL_tieAt_5 ⟨Nat.le_trans (Nat.add_le_add_left hm1 _) hB.1, Nat.le_trans (Nat.add_le_add_left hs1 _) hB.2⟩) (fun E4 ce q9 S4 hf H locs cells slots hH hB hc1 hc2 hc3 => ?_) (fun v3 S1 hf H locs cells slots hH hB => ?_)
    · rcases hf with ⟨rfl, hf⟩ | ⟨rfl, hf⟩
      · refine vx_catch X.1.2.2.2.1 [] ⟨0, 10, 13, 39⟩ [⟨0, 10, 17, 55⟩] htab (fun z hz => nomatch hz) (by decide) (by decide) (X.1.2.2.2.2 _ tw_1099) (va_Nw.use (by decide +kernel) ((hGE _ _ _ X.2.2.2.2).1 _ (List.mem_of_getElem? (i := 4) rfl))) hc1 hc2 hc3 ?_
        refine lv_astore (lv' := [(4, .ref q9), (0, .ref a0), (1, .int a1), (2, .int a2), (3, .ref a3)]) hx hb dL_tieAt_13 hl (by decide) rfl (fun ls hl => ?_)
        refine lv_iconst (v := 1) hx hb dL_tieAt_15 (by decide) ?_
        exact vx_ret (q_retI X hH hr hlk hf (Nat.le_trans (Nat.le_add_right _ _) hB.1) (Nat.le_trans (Nat.le_add_right _ _) hB.2) dL_tieAt_16)
      · refine vx_catch X.1.2.2.2.1 [⟨0, 10, 13, 39⟩] ⟨0, 10, 17, 55⟩ [] htab (fun z hz => by rcases List.mem_singleton.mp hz with rfl; exact Or.inr ⟨(by decide), "java/lang/IndexOutOfBoundsException", X.1.2.2.2.2 _ tw_1099, hGN _ _ _ X.2.2.2.2 _ (List.mem_of_getElem? (i := 1) rfl)⟩) (by decide) (by decide) (X.1.2.2.2.2 _ tw_1171) (va_Nw.use (by decide +kernel) ((hGE _ _ _ X.2.2.2.2).1 _ (List.mem_of_getElem? (i := 6) rfl))) hc1 hc2 hc3 ?_
        refine lv_astore (lv' := [(4, .ref q9), (0, .ref a0), (1, .int a1), (2, .int a2), (3, .ref a3)]) hx hb dL_tieAt_17 hl (by decide) rfl (fun ls hl => ?_)
        refine lv_iconst (v := 2) hx hb dL_tieAt_19 (by decide) ?_
        exact vx_ret (q_retI X hH hr hlk hf (Nat.le_trans (Nat.le_add_right _ _) hB.1) (Nat.le_trans (Nat.le_add_right _ _) hB.2) dL_tieAt_20)
    · refine lv_i2l (v := v3.toInt64) hx hb dL_tieAt_8 rfl ?_
      refine q_last X hH hf dL_tieAt_9 (fun S5 hf H locs hH => ?_)
      refine lv_goto (tgt := 21) hx hb dL_tieAt_10 (by decide) ?_
      refine lv_iconst (v := 0) hx hb dL_tieAt_21 (by decide) ?_
      exact vx_ret (q_retI X hH hr hlk hf (Nat.le_trans (Nat.le_add_right _ _) hB.1) (Nat.le_trans (Nat.le_add_right _ _) hB.2) dL_tieAt_22)
  exact main s.heap [] ls 0 0 mc ms hf hH hl ⟨by omega, by omega⟩
-- L_met
def f_L_met (S : PS) (a0 : Nat) (a1 : Nat) (bc bs : Nat) (post : Int32 → PS → Prop) : Prop :=
  isO S a0 11 (
  ∃ mc2 ms2 : Nat, mc2 ≤ bc ∧ ms2 ≤ bs ∧ (f_X7_met S a0 mc2 ms2 (fun v3 S1 => (
    sL S1 a1 0 v3.toInt64 fun S5 => (
    post 0 S5))) (fun E4 S4 => (
  (E4 = "java/util/NoSuchElementException" ∧ (
    post 1 S4))))))
abbrev rm_L_met (mc ms : Nat) : Room := { frames := 7, cells := mc, slots := ms, locals := 114 }
set_option maxHeartbeats 4000000 in
set_option maxRecDepth 100000 in
theorem c_L_met (l : Launch) (D : va_G) (cy : Nat → ClassId) (G : p_GT) (hG : p_ok G) (hst : l.stackTraces = false) (hGE : ∀ (A : Nat → Prop) (U : State) (H : Heap), G A U H → p_Ex A U H) (S : PS) (a0 : Nat) (a1 : Nat) (mc ms : Nat) (post : Int32 → PS → Prop) (sz : Nat) (hf : f_L_met S a0 a1 mc ms post) : p_Xi l D cy G S sz yL_met (Cond.codeWith yL_met cL_met 3 (some .int) [(0, 8, 11, 55)] :: wG) (rm_L_met mc ms) [.ref a0, .ref a1] mc ms post (fun _ _ => False) := by
  refine q_startH hG (Qc := fun A => va_Qi post (p_Post D cy A) A) (XC := fun A => p_XC D cy A (fun _ _ => False)) mw_L_met (Nat.le_of_ble_eq_true rfl) (own := RL) rfl ?_
  intro p e s m below meth c A X hr hlk hnm htab ls hl hH
  have hx := X.1.1
  have hb := X.1.2.1
  replace hl : lv_has ls 3 [(0, .ref a0), (1, .ref a1)] := hl
  have main : ∀ (H : Heap) (locs : List Loc) (ls : Array Slot) (cells slots bc bs : Nat), f_L_met S a0 a1 bc bs post → p_H D cy S A s H locs → lv_has ls 3 [(0, .ref a0), (1, .ref a1)] → cells + bc ≤ mc ∧ slots + bs ≤ ms → W p l e (rm_L_met mc ms) s m [.ref a0, .ref a1].toArray below meth c H locs cells slots (vx_MQ below (va_Qi post (p_Post D cy A) A) (p_XC D cy A (fun _ _ => False)) [.ref a0, .ref a1].toArray s mc ms A) (F0 m 0 ls []) := by
    intro H locs ls cells slots bc bs hf hH hl hB
    refine lv_aload_n hx hb dL_met_0 rfl (lv_at hl 1 rfl) ?_
    refine lv_iconst (v := 0) hx hb dL_met_1 (by decide) ?_
    refine lv_aload_n hx hb dL_met_2 rfl (lv_at hl 0 rfl) ?_
    obtain ⟨hb1, hb2, mc2, ms2, hm1, hs1, hf⟩ := hf
    refine q_callXi X hH hB hm1 hs1 (q_runVx [] [.int 0, .ref a1] X hH hl (c_X7_met l D cy G X.2.2.2.1 hst hGE S a0 mc2 ms2 _ _ _ hf) mf_X7_met mv_X7_met tw_1218 ⟨Nat.le_of_ble_eq_true rfl, Nat.le_of_ble_eq_true rfl⟩ hb1 hb2 (T := TX7) (N := 12) rfl rfl (Nat.le_of_ble_eq_true rfl) dL_met_3 ⟨Nat.le_trans (Nat.add_le_add_left hm1 _) hB.1, Nat.le_trans (Nat.add_le_add_left hs1 _) hB.2⟩) (fun E4 ce q9 S4 hf H locs cells slots hH hB hc1 hc2 hc3 => ?_) (fun v3 S1 hf H locs cells slots hH hB => ?_)
    · rcases hf with ⟨rfl, hf⟩
      · refine vx_catch X.1.2.2.2.1 [] ⟨0, 8, 11, 55⟩ [] htab (fun z hz => nomatch hz) (by decide) (by decide) (X.1.2.2.2.2 _ tw_1171) (va_Nw.use (by decide +kernel) ((hGE _ _ _ X.2.2.2.2).1 _ (List.mem_of_getElem? (i := 6) rfl))) hc1 hc2 hc3 ?_
        refine lv_astore_n (lv' := [(2, .ref q9), (0, .ref a0), (1, .ref a1)]) hx hb dL_met_11 rfl hl (by decide) rfl (fun ls hl => ?_)
        refine lv_iconst (v := 1) hx hb dL_met_12 (by decide) ?_
        exact vx_ret (q_retI X hH hr hlk hf (Nat.le_trans (Nat.le_add_right _ _) hB.1) (Nat.le_trans (Nat.le_add_right _ _) hB.2) dL_met_13)
    · refine lv_i2l (v := v3.toInt64) hx hb dL_met_6 rfl ?_
      refine q_last X hH hf dL_met_7 (fun S5 hf H locs hH => ?_)
      refine lv_goto (tgt := 14) hx hb dL_met_8 (by decide) ?_
      refine lv_iconst (v := 0) hx hb dL_met_14 (by decide) ?_
      exact vx_ret (q_retI X hH hr hlk hf (Nat.le_trans (Nat.le_add_right _ _) hB.1) (Nat.le_trans (Nat.le_add_right _ _) hB.2) dL_met_15)
  exact main s.heap [] ls 0 0 mc ms hf hH hl ⟨by omega, by omega⟩
-- L_betweenAgain
def f_L_betweenAgain (S : PS) (a0 : Nat) (a1 : Int32) (a2 : Int32) (a3 : Nat) (bc bs : Nat) (post : Int32 → PS → Prop) : Prop :=
  isO S a0 11 (
  ∃ mc2 ms2 : Nat, mc2 ≤ bc ∧ ms2 ≤ bs ∧ (f_X7_betweenAgain S a0 a1 a2 mc2 ms2 (fun v3 S1 => (
    sL S1 a3 0 v3.toInt64 fun S5 => (
    post 0 S5))) (fun E4 S4 => (
  (E4 = "java/lang/IndexOutOfBoundsException" ∧ (
    post 1 S4)) ∨
  (E4 = "java/lang/IllegalArgumentException" ∧ (
    post 2 S4))))))
abbrev rm_L_betweenAgain (mc ms : Nat) : Room := { frames := 7, cells := mc, slots := ms, locals := 118 }
set_option maxHeartbeats 4000000 in
set_option maxRecDepth 100000 in
theorem c_L_betweenAgain (l : Launch) (D : va_G) (cy : Nat → ClassId) (G : p_GT) (hG : p_ok G) (hst : l.stackTraces = false) (hGE : ∀ (A : Nat → Prop) (U : State) (H : Heap), G A U H → p_Ex A U H) (hGN : ∀ (A : Nat → Prop) (U : State) (H : Heap), G A U H → gN A U H) (S : PS) (a0 : Nat) (a1 : Int32) (a2 : Int32) (a3 : Nat) (mc ms : Nat) (post : Int32 → PS → Prop) (sz : Nat) (hf : f_L_betweenAgain S a0 a1 a2 a3 mc ms post) : p_Xi l D cy G S sz yL_betweenAgain (Cond.codeWith yL_betweenAgain cL_betweenAgain 5 (some .int) [(0, 10, 13, 39), (0, 10, 17, 44)] :: wG) (rm_L_betweenAgain mc ms) [.ref a0, .int a1, .int a2, .ref a3] mc ms post (fun _ _ => False) := by
  refine q_startH hG (Qc := fun A => va_Qi post (p_Post D cy A) A) (XC := fun A => p_XC D cy A (fun _ _ => False)) mw_L_betweenAgain (Nat.le_of_ble_eq_true rfl) (own := RL) rfl ?_
  intro p e s m below meth c A X hr hlk hnm htab ls hl hH
  have hx := X.1.1
  have hb := X.1.2.1
  replace hl : lv_has ls 5 [(0, .ref a0), (1, .int a1), (2, .int a2), (3, .ref a3)] := hl
  have main : ∀ (H : Heap) (locs : List Loc) (ls : Array Slot) (cells slots bc bs : Nat), f_L_betweenAgain S a0 a1 a2 a3 bc bs post → p_H D cy S A s H locs → lv_has ls 5 [(0, .ref a0), (1, .int a1), (2, .int a2), (3, .ref a3)] → cells + bc ≤ mc ∧ slots + bs ≤ ms → W p l e (rm_L_betweenAgain mc ms) s m [.ref a0, .int a1, .int a2, .ref a3].toArray below meth c H locs cells slots (vx_MQ below (va_Qi post (p_Post D cy A) A) (p_XC D cy A (fun _ _ => False)) [.ref a0, .int a1, .int a2, .ref a3].toArray s mc ms A) (F0 m 0 ls []) := by
    intro H locs ls cells slots bc bs hf hH hl hB
    refine lv_aload_n hx hb dL_betweenAgain_0 rfl (lv_at hl 3 rfl) ?_
    refine lv_iconst (v := 0) hx hb dL_betweenAgain_1 (by decide) ?_
    refine lv_aload_n hx hb dL_betweenAgain_2 rfl (lv_at hl 0 rfl) ?_
    refine lv_iload_n hx hb dL_betweenAgain_3 rfl (lv_at hl 1 rfl) ?_
    refine lv_iload_n hx hb dL_betweenAgain_4 rfl (lv_at hl 2 rfl) ?_
    obtain ⟨hb1, hb2, mc2, ms2, hm1, hs1, hf⟩ := hf
    refine q_callXi X hH hB hm1 hs1 (q_runVx [.int a1, .int a2] [.int 0, .ref a3] X hH hl (c_X7_betweenAgain l D cy G X.2.2.2.1 hst hGE S a0 a1 a2 mc2 ms2 _ _ _ hf) mf_X7_betweenAgain mv_X7_betweenAgain tw_1245 ⟨Nat.le_of_ble_eq_true rfl, Nat.le_of_ble_eq_true rfl⟩ hb1 hb2 (T := TX7) (N := 12) rfl rfl (Nat.le_of_ble_eq_true rfl) dL_betweenAgain_5 ⟨Nat.le_trans (Nat.add_le_add_left hm1 _) hB.1, Nat.le_trans (Nat.add_le_add_left hs1 _) hB.2⟩) (fun E4 ce q9 S4 hf H locs cells slots hH hB hc1 hc2 hc3 => ?_) (fun v3 S1 hf H locs cells slots hH hB => ?_)
    · rcases hf with ⟨rfl, hf⟩ | ⟨rfl, hf⟩
      · refine vx_catch X.1.2.2.2.1 [] ⟨0, 10, 13, 39⟩ [⟨0, 10, 17, 44⟩] htab (fun z hz => nomatch hz) (by decide) (by decide) (X.1.2.2.2.2 _ tw_1099) (va_Nw.use (by decide +kernel) ((hGE _ _ _ X.2.2.2.2).1 _ (List.mem_of_getElem? (i := 4) rfl))) hc1 hc2 hc3 ?_
        refine lv_astore (lv' := [(4, .ref q9), (0, .ref a0), (1, .int a1), (2, .int a2), (3, .ref a3)]) hx hb dL_betweenAgain_13 hl (by decide) rfl (fun ls hl => ?_)
        refine lv_iconst (v := 1) hx hb dL_betweenAgain_15 (by decide) ?_
        exact vx_ret (q_retI X hH hr hlk hf (Nat.le_trans (Nat.le_add_right _ _) hB.1) (Nat.le_trans (Nat.le_add_right _ _) hB.2) dL_betweenAgain_16)
      · refine vx_catch X.1.2.2.2.1 [⟨0, 10, 13, 39⟩] ⟨0, 10, 17, 44⟩ [] htab (fun z hz => by rcases List.mem_singleton.mp hz with rfl; exact Or.inr ⟨(by decide), "java/lang/IndexOutOfBoundsException", X.1.2.2.2.2 _ tw_1099, hGN _ _ _ X.2.2.2.2 _ (List.mem_of_getElem? (i := 0) rfl)⟩) (by decide) (by decide) (X.1.2.2.2.2 _ tw_1121) (va_Nw.use (by decide +kernel) ((hGE _ _ _ X.2.2.2.2).1 _ (List.mem_of_getElem? (i := 5) rfl))) hc1 hc2 hc3 ?_
        refine lv_astore (lv' := [(4, .ref q9), (0, .ref a0), (1, .int a1), (2, .int a2), (3, .ref a3)]) hx hb dL_betweenAgain_17 hl (by decide) rfl (fun ls hl => ?_)
        refine lv_iconst (v := 2) hx hb dL_betweenAgain_19 (by decide) ?_
        exact vx_ret (q_retI X hH hr hlk hf (Nat.le_trans (Nat.le_add_right _ _) hB.1) (Nat.le_trans (Nat.le_add_right _ _) hB.2) dL_betweenAgain_20)
    · refine lv_i2l (v := v3.toInt64) hx hb dL_betweenAgain_8 rfl ?_
      refine q_last X hH hf dL_betweenAgain_9 (fun S5 hf H locs hH => ?_)
      refine lv_goto (tgt := 21) hx hb dL_betweenAgain_10 (by decide) ?_
      refine lv_iconst (v := 0) hx hb dL_betweenAgain_21 (by decide) ?_
      exact vx_ret (q_retI X hH hr hlk hf (Nat.le_trans (Nat.le_add_right _ _) hB.1) (Nat.le_trans (Nat.le_add_right _ _) hB.2) dL_betweenAgain_22)
  exact main s.heap [] ls 0 0 mc ms hf hH hl ⟨by omega, by omega⟩
-- L_ranked
def f_L_ranked (S : PS) (a0 : Nat) (a1 : Int32) (a2 : Int32) (a3 : Nat) (bc bs : Nat) (post : Int32 → PS → Prop) : Prop :=
  isO S a0 11 (
  ∃ mc2 ms2 : Nat, mc2 ≤ bc ∧ ms2 ≤ bs ∧ (f_X7_ranked S a0 a1 a2 mc2 ms2 (fun v3 S1 => (
    sL S1 a3 0 v3.toInt64 fun S5 => (
    post 0 S5))) (fun E4 S4 => (
  (E4 = "java/lang/IllegalArgumentException" ∧ (
    post 1 S4)) ∨
  (E4 = "java/util/NoSuchElementException" ∧ (
    post 2 S4))))))
abbrev rm_L_ranked (mc ms : Nat) : Room := { frames := 7, cells := mc, slots := ms, locals := 150 }
set_option maxHeartbeats 4000000 in
set_option maxRecDepth 100000 in
theorem c_L_ranked (l : Launch) (D : va_G) (cy : Nat → ClassId) (G : p_GT) (hG : p_ok G) (hst : l.stackTraces = false) (hGE : ∀ (A : Nat → Prop) (U : State) (H : Heap), G A U H → p_Ex A U H) (hGN : ∀ (A : Nat → Prop) (U : State) (H : Heap), G A U H → gN A U H) (S : PS) (a0 : Nat) (a1 : Int32) (a2 : Int32) (a3 : Nat) (mc ms : Nat) (post : Int32 → PS → Prop) (sz : Nat) (hf : f_L_ranked S a0 a1 a2 a3 mc ms post) : p_Xi l D cy G S sz yL_ranked (Cond.codeWith yL_ranked cL_ranked 5 (some .int) [(0, 10, 13, 44), (0, 10, 17, 55)] :: wG) (rm_L_ranked mc ms) [.ref a0, .int a1, .int a2, .ref a3] mc ms post (fun _ _ => False) := by
  refine q_startH hG (Qc := fun A => va_Qi post (p_Post D cy A) A) (XC := fun A => p_XC D cy A (fun _ _ => False)) mw_L_ranked (Nat.le_of_ble_eq_true rfl) (own := RL) rfl ?_
  intro p e s m below meth c A X hr hlk hnm htab ls hl hH
  have hx := X.1.1
  have hb := X.1.2.1
  replace hl : lv_has ls 5 [(0, .ref a0), (1, .int a1), (2, .int a2), (3, .ref a3)] := hl
  have main : ∀ (H : Heap) (locs : List Loc) (ls : Array Slot) (cells slots bc bs : Nat), f_L_ranked S a0 a1 a2 a3 bc bs post → p_H D cy S A s H locs → lv_has ls 5 [(0, .ref a0), (1, .int a1), (2, .int a2), (3, .ref a3)] → cells + bc ≤ mc ∧ slots + bs ≤ ms → W p l e (rm_L_ranked mc ms) s m [.ref a0, .int a1, .int a2, .ref a3].toArray below meth c H locs cells slots (vx_MQ below (va_Qi post (p_Post D cy A) A) (p_XC D cy A (fun _ _ => False)) [.ref a0, .int a1, .int a2, .ref a3].toArray s mc ms A) (F0 m 0 ls []) := by
    intro H locs ls cells slots bc bs hf hH hl hB
    refine lv_aload_n hx hb dL_ranked_0 rfl (lv_at hl 3 rfl) ?_
    refine lv_iconst (v := 0) hx hb dL_ranked_1 (by decide) ?_
    refine lv_aload_n hx hb dL_ranked_2 rfl (lv_at hl 0 rfl) ?_
    refine lv_iload_n hx hb dL_ranked_3 rfl (lv_at hl 1 rfl) ?_
    refine lv_iload_n hx hb dL_ranked_4 rfl (lv_at hl 2 rfl) ?_
    obtain ⟨hb1, hb2, mc2, ms2, hm1, hs1, hf⟩ := hf
    refine q_callXi X hH hB hm1 hs1 (q_runVx [.int a1, .int a2] [.int 0, .ref a3] X hH hl (c_X7_ranked l D cy G X.2.2.2.1 hst hGE S a0 a1 a2 mc2 ms2 _ _ _ hf) mf_X7_ranked mv_X7_ranked tw_1339 ⟨Nat.le_of_ble_eq_true rfl, Nat.le_of_ble_eq_true rfl⟩ hb1 hb2 (T := TX7) (N := 12) rfl rfl (Nat.le_of_ble_eq_true rfl) dL_ranked_5 ⟨Nat.le_trans (Nat.add_le_add_left hm1 _) hB.1, Nat.le_trans (Nat.add_le_add_left hs1 _) hB.2⟩) (fun E4 ce q9 S4 hf H locs cells slots hH hB hc1 hc2 hc3 => ?_) (fun v3 S1 hf H locs cells slots hH hB => ?_)
    · rcases hf with ⟨rfl, hf⟩ | ⟨rfl, hf⟩
      · refine vx_catch X.1.2.2.2.1 [] ⟨0, 10, 13, 44⟩ [⟨0, 10, 17, 55⟩] htab (fun z hz => nomatch hz) (by decide) (by decide) (X.1.2.2.2.2 _ tw_1121) (va_Nw.use (by decide +kernel) ((hGE _ _ _ X.2.2.2.2).1 _ (List.mem_of_getElem? (i := 5) rfl))) hc1 hc2 hc3 ?_
        refine lv_astore (lv' := [(4, .ref q9), (0, .ref a0), (1, .int a1), (2, .int a2), (3, .ref a3)]) hx hb dL_ranked_13 hl (by decide) rfl (fun ls hl => ?_)
        refine lv_iconst (v := 1) hx hb dL_ranked_15 (by decide) ?_
        exact vx_ret (q_retI X hH hr hlk hf (Nat.le_trans (Nat.le_add_right _ _) hB.1) (Nat.le_trans (Nat.le_add_right _ _) hB.2) dL_ranked_16)
      · refine vx_catch X.1.2.2.2.1 [⟨0, 10, 13, 44⟩] ⟨0, 10, 17, 55⟩ [] htab (fun z hz => by rcases List.mem_singleton.mp hz with rfl; exact Or.inr ⟨(by decide), "java/lang/IllegalArgumentException", X.1.2.2.2.2 _ tw_1121, hGN _ _ _ X.2.2.2.2 _ (List.mem_of_getElem? (i := 3) rfl)⟩) (by decide) (by decide) (X.1.2.2.2.2 _ tw_1171) (va_Nw.use (by decide +kernel) ((hGE _ _ _ X.2.2.2.2).1 _ (List.mem_of_getElem? (i := 6) rfl))) hc1 hc2 hc3 ?_
        refine lv_astore (lv' := [(4, .ref q9), (0, .ref a0), (1, .int a1), (2, .int a2), (3, .ref a3)]) hx hb dL_ranked_17 hl (by decide) rfl (fun ls hl => ?_)
        refine lv_iconst (v := 2) hx hb dL_ranked_19 (by decide) ?_
        exact vx_ret (q_retI X hH hr hlk hf (Nat.le_trans (Nat.le_add_right _ _) hB.1) (Nat.le_trans (Nat.le_add_right _ _) hB.2) dL_ranked_20)
    · refine lv_i2l (v := v3.toInt64) hx hb dL_ranked_8 rfl ?_
      refine q_last X hH hf dL_ranked_9 (fun S5 hf H locs hH => ?_)
      refine lv_goto (tgt := 21) hx hb dL_ranked_10 (by decide) ?_
      refine lv_iconst (v := 0) hx hb dL_ranked_21 (by decide) ?_
      exact vx_ret (q_retI X hH hr hlk hf (Nat.le_trans (Nat.le_add_right _ _) hB.1) (Nat.le_trans (Nat.le_add_right _ _) hB.2) dL_ranked_22)
  exact main s.heap [] ls 0 0 mc ms hf hH hl ⟨by omega, by omega⟩
-- L_append
def f_L_append (S : PS) (a0 : Nat) (a1 : Int32) (a2 : Nat) (bc bs : Nat) (post : Int32 → PS → Prop) : Prop :=
  isO S a0 11 (
  ∃ mc2 ms2 : Nat, mc2 ≤ bc ∧ ms2 ≤ bs ∧ (f_X7_append S a0 a1 mc2 ms2 (fun v3 S1 => (
    sL S1 a2 0 v3.toInt64 fun S5 => (
    post 0 S5))) (fun E4 S4 => (
  (E4 = "java/lang/IllegalArgumentException" ∧ (
    post 1 S4)) ∨
  (E4 = "java/lang/IllegalStateException" ∧ (
    post 2 S4))))))
abbrev rm_L_append (mc ms : Nat) : Room := { frames := 8, cells := mc, slots := ms, locals := 188 }
set_option maxHeartbeats 4000000 in
set_option maxRecDepth 100000 in
theorem c_L_append (l : Launch) (D : va_G) (cy : Nat → ClassId) (G : p_GT) (hG : p_ok G) (hGC : ∀ (A : Nat → Prop) (U : State) (H : Heap), G A U H → gC A U H) (hst : l.stackTraces = false) (hGE : ∀ (A : Nat → Prop) (U : State) (H : Heap), G A U H → p_Ex A U H) (hGN : ∀ (A : Nat → Prop) (U : State) (H : Heap), G A U H → gN A U H) (hGU : ∀ (A : Nat → Prop) (U : State) (H : Heap), G A U H → gU A U H) (S : PS) (a0 : Nat) (a1 : Int32) (a2 : Nat) (mc ms : Nat) (post : Int32 → PS → Prop) (sz : Nat) (hf : f_L_append S a0 a1 a2 mc ms post) : p_Xi l D cy G S sz yL_append (Cond.codeWith yL_append cL_append 4 (some .int) [(0, 9, 12, 44), (0, 9, 15, 91)] :: wG) (rm_L_append mc ms) [.ref a0, .int a1, .ref a2] mc ms post (fun _ _ => False) := by
  refine q_startH hG (Qc := fun A => va_Qi post (p_Post D cy A) A) (XC := fun A => p_XC D cy A (fun _ _ => False)) mw_L_append (Nat.le_of_ble_eq_true rfl) (own := RL) rfl ?_
  intro p e s m below meth c A X hr hlk hnm htab ls hl hH
  have hx := X.1.1
  have hb := X.1.2.1
  replace hl : lv_has ls 4 [(0, .ref a0), (1, .int a1), (2, .ref a2)] := hl
  have main : ∀ (H : Heap) (locs : List Loc) (ls : Array Slot) (cells slots bc bs : Nat), f_L_append S a0 a1 a2 bc bs post → p_H D cy S A s H locs → lv_has ls 4 [(0, .ref a0), (1, .int a1), (2, .ref a2)] → cells + bc ≤ mc ∧ slots + bs ≤ ms → W p l e (rm_L_append mc ms) s m [.ref a0, .int a1, .ref a2].toArray below meth c H locs cells slots (vx_MQ below (va_Qi post (p_Post D cy A) A) (p_XC D cy A (fun _ _ => False)) [.ref a0, .int a1, .ref a2].toArray s mc ms A) (F0 m 0 ls []) := by
    intro H locs ls cells slots bc bs hf hH hl hB
    refine lv_aload_n hx hb dL_append_0 rfl (lv_at hl 2 rfl) ?_
    refine lv_iconst (v := 0) hx hb dL_append_1 (by decide) ?_
    refine lv_aload_n hx hb dL_append_2 rfl (lv_at hl 0 rfl) ?_
    refine lv_iload_n hx hb dL_append_3 rfl (lv_at hl 1 rfl) ?_
    obtain ⟨hb1, hb2, mc2, ms2, hm1, hs1, hf⟩ := hf
    refine q_callXi X hH hB hm1 hs1 (q_runVx [.int a1] [.int 0, .ref a2] X hH hl (c_X7_append l D cy G X.2.2.2.1 hGC hst hGE hGU S a0 a1 mc2 ms2 _ _ _ hf) mf_X7_append mv_X7_append tw_1364 ⟨Nat.le_of_ble_eq_true rfl, Nat.le_of_ble_eq_true rfl⟩ hb1 hb2 (T := TX7) (N := 12) rfl rfl (Nat.le_of_ble_eq_true rfl) dL_append_4 ⟨Nat.le_trans (Nat.add_le_add_left hm1 _) hB.1, Nat.le_trans (Nat.add_le_add_left hs1 _) hB.2⟩) (fun E4 ce q9 S4 hf H locs cells slots hH hB hc1 hc2 hc3 => ?_) (fun v3 S1 hf H locs cells slots hH hB => ?_)
    · rcases hf with ⟨rfl, hf⟩ | ⟨rfl, hf⟩
      · refine vx_catch X.1.2.2.2.1 [] ⟨0, 9, 12, 44⟩ [⟨0, 9, 15, 91⟩] htab (fun z hz => nomatch hz) (by decide) (by decide) (X.1.2.2.2.2 _ tw_1121) (va_Nw.use (by decide +kernel) ((hGE _ _ _ X.2.2.2.2).1 _ (List.mem_of_getElem? (i := 5) rfl))) hc1 hc2 hc3 ?_
        refine lv_astore_n (lv' := [(3, .ref q9), (0, .ref a0), (1, .int a1), (2, .ref a2)]) hx hb dL_append_12 rfl hl (by decide) rfl (fun ls hl => ?_)
        refine lv_iconst (v := 1) hx hb dL_append_13 (by decide) ?_
        exact vx_ret (q_retI X hH hr hlk hf (Nat.le_trans (Nat.le_add_right _ _) hB.1) (Nat.le_trans (Nat.le_add_right _ _) hB.2) dL_append_14)
      · refine vx_catch X.1.2.2.2.1 [⟨0, 9, 12, 44⟩] ⟨0, 9, 15, 91⟩ [] htab (fun z hz => by rcases List.mem_singleton.mp hz with rfl; exact Or.inr ⟨(by decide), "java/lang/IllegalArgumentException", X.1.2.2.2.2 _ tw_1121, hGN _ _ _ X.2.2.2.2 _ (List.mem_of_getElem? (i := 4) rfl)⟩) (by decide) (by decide) (X.1.2.2.2.2 _ tw_1284) (va_Nw.use (by decide +kernel) ((hGE _ _ _ X.2.2.2.2).1 _ (List.mem_of_getElem? (i := 7) rfl))) hc1 hc2 hc3 ?_
        refine lv_astore_n (lv' := [(3, .ref q9), (0, .ref a0), (1, .int a1), (2, .ref a2)]) hx hb dL_append_15 rfl hl (by decide) rfl (fun ls hl => ?_)
        refine lv_iconst (v := 2) hx hb dL_append_16 (by decide) ?_
        exact vx_ret (q_retI X hH hr hlk hf (Nat.le_trans (Nat.le_add_right _ _) hB.1) (Nat.le_trans (Nat.le_add_right _ _) hB.2) dL_append_17)
    · refine lv_i2l (v := v3.toInt64) hx hb dL_append_7 rfl ?_
      refine q_last X hH hf dL_append_8 (fun S5 hf H locs hH => ?_)
      refine lv_goto (tgt := 18) hx hb dL_append_9 (by decide) ?_
      refine lv_iconst (v := 0) hx hb dL_append_18 (by decide) ?_
      exact vx_ret (q_retI X hH hr hlk hf (Nat.le_trans (Nat.le_add_right _ _) hB.1) (Nat.le_trans (Nat.le_add_right _ _) hB.2) dL_append_19)
  exact main s.heap [] ls 0 0 mc ms hf hH hl ⟨by omega, by omega⟩
-- L_character
def f_L_character (S : PS) (a0 : Nat) (a1 : Int32) (a2 : Nat) (bc bs : Nat) (post : Int32 → PS → Prop) : Prop :=
  isO S a0 11 (
  ∃ mc2 ms2 : Nat, mc2 ≤ bc ∧ ms2 ≤ bs ∧ (f_X7_character S a0 a1 mc2 ms2 (fun v3 S1 => (
    sL S1 a2 0 v3.toInt64 fun S5 => (
    post 0 S5))) (fun E4 S4 => (
  (E4 = "java/lang/IndexOutOfBoundsException" ∧ (
    post 1 S4))))))
abbrev rm_L_character (mc ms : Nat) : Room := { frames := 7, cells := mc, slots := ms, locals := 111 }
set_option maxHeartbeats 4000000 in
set_option maxRecDepth 100000 in
theorem c_L_character (l : Launch) (D : va_G) (cy : Nat → ClassId) (G : p_GT) (hG : p_ok G) (hst : l.stackTraces = false) (hGE : ∀ (A : Nat → Prop) (U : State) (H : Heap), G A U H → p_Ex A U H) (hGF : ∀ (A : Nat → Prop) (U : State) (H : Heap), G A U H → gF A U H) (S : PS) (a0 : Nat) (a1 : Int32) (a2 : Nat) (mc ms : Nat) (post : Int32 → PS → Prop) (sz : Nat) (hf : f_L_character S a0 a1 a2 mc ms post) : p_Xi l D cy G S sz yL_character (Cond.codeWith yL_character cL_character 4 (some .int) [(0, 9, 12, 39)] :: wG) (rm_L_character mc ms) [.ref a0, .int a1, .ref a2] mc ms post (fun _ _ => False) := by
  refine q_startH hG (Qc := fun A => va_Qi post (p_Post D cy A) A) (XC := fun A => p_XC D cy A (fun _ _ => False)) mw_L_character (Nat.le_of_ble_eq_true rfl) (own := RL) rfl ?_
  intro p e s m below meth c A X hr hlk hnm htab ls hl hH
  have hx := X.1.1
  have hb := X.1.2.1
  replace hl : lv_has ls 4 [(0, .ref a0), (1, .int a1), (2, .ref a2)] := hl
  have main : ∀ (H : Heap) (locs : List Loc) (ls : Array Slot) (cells slots bc bs : Nat), f_L_character S a0 a1 a2 bc bs post → p_H D cy S A s H locs → lv_has ls 4 [(0, .ref a0), (1, .int a1), (2, .ref a2)] → cells + bc ≤ mc ∧ slots + bs ≤ ms → W p l e (rm_L_character mc ms) s m [.ref a0, .int a1, .ref a2].toArray below meth c H locs cells slots (vx_MQ below (va_Qi post (p_Post D cy A) A) (p_XC D cy A (fun _ _ => False)) [.ref a0, .int a1, .ref a2].toArray s mc ms A) (F0 m 0 ls []) := by
    intro H locs ls cells slots bc bs hf hH hl hB
    refine lv_aload_n hx hb dL_character_0 rfl (lv_at hl 2 rfl) ?_
    refine lv_iconst (v := 0) hx hb dL_character_1 (by decide) ?_
    refine lv_aload_n hx hb dL_character_2 rfl (lv_at hl 0 rfl) ?_
    refine lv_iload_n hx hb dL_character_3 rfl (lv_at hl 1 rfl) ?_
    obtain ⟨hb1, hb2, mc2, ms2, hm1, hs1, hf⟩ := hf
    refine q_callXi X hH hB hm1 hs1 (q_runVx [.int a1] [.int 0, .ref a2] X hH hl (c_X7_character l D cy G X.2.2.2.1 hst hGE hGF S a0 a1 mc2 ms2 _ _ _ hf) mf_X7_character mv_X7_character tw_1513 ⟨Nat.le_of_ble_eq_true rfl, Nat.le_of_ble_eq_true rfl⟩ hb1 hb2 (T := TX7) (N := 12) rfl rfl (Nat.le_of_ble_eq_true rfl) dL_character_4 ⟨Nat.le_trans (Nat.add_le_add_left hm1 _) hB.1, Nat.le_trans (Nat.add_le_add_left hs1 _) hB.2⟩) (fun E4 ce q9 S4 hf H locs cells slots hH hB hc1 hc2 hc3 => ?_) (fun v3 S1 hf H locs cells slots hH hB => ?_)
    · rcases hf with ⟨rfl, hf⟩
      · refine vx_catch X.1.2.2.2.1 [] ⟨0, 9, 12, 39⟩ [] htab (fun z hz => nomatch hz) (by decide) (by decide) (X.1.2.2.2.2 _ tw_1099) (va_Nw.use (by decide +kernel) ((hGE _ _ _ X.2.2.2.2).1 _ (List.mem_of_getElem? (i := 4) rfl))) hc1 hc2 hc3 ?_
        refine lv_astore_n (lv' := [(3, .ref q9), (0, .ref a0), (1, .int a1), (2, .ref a2)]) hx hb dL_character_12 rfl hl (by decide) rfl (fun ls hl => ?_)
        refine lv_iconst (v := 1) hx hb dL_character_13 (by decide) ?_
        exact vx_ret (q_retI X hH hr hlk hf (Nat.le_trans (Nat.le_add_right _ _) hB.1) (Nat.le_trans (Nat.le_add_right _ _) hB.2) dL_character_14)
    · refine lv_i2l (v := v3.toInt64) hx hb dL_character_7 rfl ?_
      refine q_last X hH hf dL_character_8 (fun S5 hf H locs hH => ?_)
      refine lv_goto (tgt := 15) hx hb dL_character_9 (by decide) ?_
      refine lv_iconst (v := 0) hx hb dL_character_15 (by decide) ?_
      exact vx_ret (q_retI X hH hr hlk hf (Nat.le_trans (Nat.le_add_right _ _) hB.1) (Nat.le_trans (Nat.le_add_right _ _) hB.2) dL_character_16)
  exact main s.heap [] ls 0 0 mc ms hf hH hl ⟨by omega, by omega⟩
