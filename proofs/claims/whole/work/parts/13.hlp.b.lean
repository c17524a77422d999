-- L_least
def f_L_least (S : PS) (a0 : Nat) (a1 : Nat) (bc bs : Nat) (post : Int32 → PS → Prop) : Prop :=
  isO S a0 11 (
  ∃ mc2 ms2 : Nat, mc2 ≤ bc ∧ ms2 ≤ bs ∧ (f_X7_least S a0 mc2 ms2 (fun v3 S1 => (
    sL S1 a1 0 v3.toInt64 fun S5 => (
    post 0 S5))) (fun E4 S4 => (
  (E4 = "java/util/NoSuchElementException" ∧ (
    post 1 S4))))))
abbrev rm_L_least (mc ms : Nat) : Room := { frames := 7, cells := mc, slots := ms, locals := 135 }
set_option maxHeartbeats 4000000 in
set_option maxRecDepth 100000 in
theorem c_L_least (l : Launch) (D : va_G) (cy : Nat → ClassId) (G : p_GT) (hG : p_ok G) (hst : l.stackTraces = false) (hGE : ∀ (A : Nat → Prop) (U : State) (H : Heap), G A U H → p_Ex A U H) (S : PS) (a0 : Nat) (a1 : Nat) (mc ms : Nat) (post : Int32 → PS → Prop) (sz : Nat) (hf : f_L_least S a0 a1 mc ms post) : p_Xi l D cy G S sz yL_least (Cond.codeWith yL_least cL_least 3 (some .int) [(0, 8, 11, 55)] :: wG) (rm_L_least mc ms) [.ref a0, .ref a1] mc ms post (fun _ _ => False) := by
  refine q_startH hG (Qc := fun A => va_Qi post (p_Post D cy A) A) (XC := fun A => p_XC D cy A (fun _ _ => False)) mw_L_least (Nat.le_of_ble_eq_true rfl) (own := RL) rfl ?_
  intro p e s m below meth c A X hr hlk hnm htab ls hl hH
  have hx := X.1.1
  have hb := X.1.2.1
  replace hl : lv_has ls 3 [(0, .ref a0), (1, .ref a1)] := hl
  have main : ∀ (H : Heap) (locs : List Loc) (ls : Array Slot) (cells slots bc bs : Nat), f_L_least S a0 a1 bc bs post → p_H D cy S A s H locs → lv_has ls 3 [(0, .ref a0), (1, .ref a1)] → cells + bc ≤ mc ∧ slots + bs ≤ ms → W p l e (rm_L_least mc ms) s m [.ref a0, .ref a1].toArray below meth c H locs cells slots (vx_MQ below (va_Qi post (p_Post D cy A) A) (p_XC D cy A (fun _ _ => False)) [.ref a0, .ref a1].toArray s mc ms A) (F0 m 0 ls []) := by
    intro H locs ls cells slots bc bs hf hH hl hB
    refine lv_aload_n hx hb dL_least_0 rfl (lv_at hl 1 rfl) ?_
    refine lv_iconst (v := 0) hx hb dL_least_1 (by decide) ?_
    refine lv_aload_n hx hb dL_least_2 rfl (lv_at hl 0 rfl) ?_
    obtain ⟨hb1, hb2, mc2, ms2, hm1, hs1, hf⟩ := hf
    refine q_callXi X hH hB hm1 hs1 (q_runVx [] [.int 0, .ref a1] X hH hl (c_X7_least l D cy G X.2.2.2.1 hst hGE S a0 mc2 ms2 _ _ _ hf) mf_X7_least mv_X7_least tw_1204 ⟨Nat.le_of_ble_eq_true rfl, Nat.le_of_ble_eq_true rfl⟩ hb1 hb2 (T := TX7) (N := 12) rfl rfl (Nat.le_of_ble_eq_true rfl) dL_least_3 ⟨Nat.le_trans (Nat.add_le_add_left hm1 _) hB.1, Nat.le_trans (Nat.add_le_add_left hs1 _) hB.2⟩) (fun E4 ce q9 S4 hf H locs cells slots hH hB hc1 hc2 hc3 => ?_) (fun v3 S1 hf H locs cells slots hH hB => ?_)
    · rcases hf with ⟨rfl, hf⟩
      · refine vx_catch X.1.2.2.2.1 [] ⟨0, 8, 11, 55⟩ [] htab (fun z hz => nomatch hz) (by decide) (by decide) (X.1.2.2.2.2 _ tw_1171) (va_Nw.use (by decide +kernel) ((hGE _ _ _ X.2.2.2.2).1 _ (List.mem_of_getElem? (i := 6) rfl))) hc1 hc2 hc3 ?_
        refine lv_astore_n (lv' := [(2, .ref q9), (0, .ref a0), (1, .ref a1)]) hx hb dL_least_11 rfl hl (by decide) rfl (fun ls hl => ?_)
        refine lv_iconst (v := 1) hx hb dL_least_12 (by decide) ?_
        exact vx_ret (q_retI X hH hr hlk hf (Nat.le_trans (Nat.le_add_right _ _) hB.1) (Nat.le_trans (Nat.le_add_right _ _) hB.2) dL_least_13)
    · refine lv_i2l (v := v3.toInt64) hx hb dL_least_6 rfl ?_
      refine q_last X hH hf dL_least_7 (fun S5 hf H locs hH => ?_)
      refine lv_goto (tgt := 14) hx hb dL_least_8 (by decide) ?_
      refine lv_iconst (v := 0) hx hb dL_least_14 (by decide) ?_
      exact vx_ret (q_retI X hH hr hlk hf (Nat.le_trans (Nat.le_add_right _ _) hB.1) (Nat.le_trans (Nat.le_add_right _ _) hB.2) dL_least_15)
  exact main s.heap [] ls 0 0 mc ms hf hH hl ⟨by omega, by omega⟩
-- L_ifBond
def f_L_ifBond (S : PS) (a0 : Nat) (a1 : Int32) (a2 : Int32) (a3 : Int32) (a4 : Nat) (bc bs : Nat) (post : Int32 → PS → Prop) : Prop :=
  isO S a0 11 (
  ∃ mc2 ms2 : Nat, mc2 ≤ bc ∧ ms2 ≤ bs ∧ (f_X7_ifBond S a0 a1 a2 a3 mc2 ms2 (fun v3 S1 => (
    sL S1 a4 0 v3.toInt64 fun S5 => (
    post 0 S5))) (fun E4 S4 => (
  (E4 = "java/lang/IndexOutOfBoundsException" ∧ (
    post 1 S4)) ∨
  (E4 = "java/lang/IllegalArgumentException" ∧ (
    post 2 S4))))))
abbrev rm_L_ifBond (mc ms : Nat) : Room := { frames := 7, cells := mc, slots := ms, locals := 161 }
set_option maxHeartbeats 4000000 in
set_option maxRecDepth 100000 in
theorem c_L_ifBond (l : Launch) (D : va_G) (cy : Nat → ClassId) (G : p_GT) (hG : p_ok G) (hst : l.stackTraces = false) (hGE : ∀ (A : Nat → Prop) (U : State) (H : Heap), G A U H → p_Ex A U H) (hGN : ∀ (A : Nat → Prop) (U : State) (H : Heap), G A U H → gN A U H) (S : PS) (a0 : Nat) (a1 : Int32) (a2 : Int32) (a3 : Int32) (a4 : Nat) (mc ms : Nat) (post : Int32 → PS → Prop) (sz : Nat) (hf : f_L_ifBond S a0 a1 a2 a3 a4 mc ms post) : p_Xi l D cy G S sz yL_ifBond (Cond.codeWith yL_ifBond cL_ifBond 6 (some .int) [(0, 12, 15, 39), (0, 12, 19, 44)] :: wG) (rm_L_ifBond mc ms) [.ref a0, .int a1, .int a2, .int a3, .ref a4] mc ms post (fun _ _ => False) := by
  refine q_startH hG (Qc := fun A => va_Qi post (p_Post D cy A) A) (XC := fun A => p_XC D cy A (fun _ _ => False)) mw_L_ifBond (Nat.le_of_ble_eq_true rfl) (own := RL) rfl ?_
  intro p e s m below meth c A X hr hlk hnm htab ls hl hH
  have hx := X.1.1
  have hb := X.1.2.1
  replace hl : lv_has ls 6 [(0, .ref a0), (1, .int a1), (2, .int a2), (3, .int a3), (4, .ref a4)] := hl
  have main : ∀ (H : Heap) (locs : List Loc) (ls : Array Slot) (cells slots bc bs : Nat), f_L_ifBond S a0 a1 a2 a3 a4 bc bs post → p_H D cy S A s H locs → lv_has ls 6 [(0, .ref a0), (1, .int a1), (2, .int a2), (3, .int a3), (4, .ref a4)] → cells + bc ≤ mc ∧ slots + bs ≤ ms → W p l e (rm_L_ifBond mc ms) s m [.ref a0, .int a1, .int a2, .int a3, .ref a4].toArray below meth c H locs cells slots (vx_MQ below (va_Qi post (p_Post D cy A) A) (p_XC D cy A (fun _ _ => False)) [.ref a0, .int a1, .int a2, .int a3, .ref a4].toArray s mc ms A) (F0 m 0 ls []) := by
    intro H locs ls cells slots bc bs hf hH hl hB
    refine lv_aload hx hb dL_ifBond_0 (lv_at hl 4 rfl) ?_
    refine lv_iconst (v := 0) hx hb dL_ifBond_2 (by decide) ?_
    refine lv_aload_n hx hb dL_ifBond_3 rfl (lv_at hl 0 rfl) ?_
    refine lv_iload_n hx hb dL_ifBond_4 rfl (lv_at hl 1 rfl) ?_
    refine lv_iload_n hx hb dL_ifBond_5 rfl (lv_at hl 2 rfl) ?_
    refine lv_iload_n hx hb dL_ifBond_6 rfl (lv_at hl 3 rfl) ?_
    obtain ⟨hb1, hb2, mc2, ms2, hm1, hs1, hf⟩ := hf
    refine q_callXi X hH hB hm1 hs1 (q_runVx [.int a1, .int a2, .int a3] [.int 0, .ref a4] X hH hl (c_X7_ifBond l D cy G X.2.2.2.1 hst hGE S a0 a1 a2 a3 mc2 ms2 _ _ _ hf) mf_X7_ifBond mv_X7_ifBond tw_1272 ⟨Nat.le_of_ble_eq_true rfl, Nat.le_of_ble_eq_true rfl⟩ hb1 hb2 (T := TX7) (N := 12) rfl rfl (Nat.le_of_ble_eq_true rfl) dL_ifBond_7 ⟨Nat.le_trans (Nat.add_le_add_left hm1 _) hB.1, Nat.le_trans (Nat.add_le_add_left hs1 _) hB.2⟩) (fun E4 ce q9 S4 hf H locs cells slots hH hB hc1 hc2 hc3 => ?_) (fun v3 S1 hf H locs cells slots hH hB => ?_)
    · rcases hf with ⟨rfl, hf⟩ | ⟨rfl, hf⟩
      · refine vx_catch X.1.2.2.2.1 [] ⟨0, 12, 15, 39⟩ [⟨0, 12, 19, 44⟩] htab (fun z hz => nomatch hz) (by decide) (by decide) (X.1.2.2.2.2 _ tw_1099) (va_Nw.use (by decide +kernel) ((hGE _ _ _ X.2.2.2.2).1 _ (List.mem_of_getElem? (i := 4) rfl))) hc1 hc2 hc3 ?_
        refine lv_astore (lv' := [(5, .ref q9), (0, .ref a0), (1, .int a1), (2, .int a2), (3, .int a3), (4, .ref a4)]) hx hb dL_ifBond_15 hl (by decide) rfl (fun ls hl => ?_)
        refine lv_iconst (v := 1) hx hb dL_ifBond_17 (by decide) ?_
        exact vx_ret (q_retI X hH hr hlk hf (Nat.le_trans (Nat.le_add_right _ _) hB.1) (Nat.le_trans (Nat.le_add_right _ _) hB.2) dL_ifBond_18)
      · refine vx_catch X.1.2.2.2.1 [⟨0, 12, 15, 39⟩] ⟨0, 12, 19, 44⟩ [] htab (fun z hz => by rcases List.mem_singleton.mp hz with rfl; exact Or.inr ⟨(by decide), "java/lang/IndexOutOfBoundsException", X.1.2.2.2.2 _ tw_1099, hGN _ _ _ X.2.2.2.2 _ (List.mem_of_getElem? (i := 0) rfl)⟩) (by decide) (by decide) (X.1.2.2.2.2 _ tw_1121) (va_Nw.use (by decide +kernel) ((hGE _ _ _ X.2.2.2.2).1 _ (List.mem_of_getElem? (i := 5) rfl))) hc1 hc2 hc3 ?_
        refine lv_astore (lv' := [(5, .ref q9), (0, .ref a0), (1, .int a1), (2, .int a2), (3, .int a3), (4, .ref a4)]) hx hb dL_ifBond_19 hl (by decide) rfl (fun ls hl => ?_)
        refine lv_iconst (v := 2) hx hb dL_ifBond_21 (by decide) ?_
        exact vx_ret (q_retI X hH hr hlk hf (Nat.le_trans (Nat.le_add_right _ _) hB.1) (Nat.le_trans (Nat.le_add_right _ _) hB.2) dL_ifBond_22)
    · refine lv_i2l (v := v3.toInt64) hx hb dL_ifBond_10 rfl ?_
      refine q_last X hH hf dL_ifBond_11 (fun S5 hf H locs hH => ?_)
      refine lv_goto (tgt := 23) hx hb dL_ifBond_12 (by decide) ?_
      refine lv_iconst (v := 0) hx hb dL_ifBond_23 (by decide) ?_
      exact vx_ret (q_retI X hH hr hlk hf (Nat.le_trans (Nat.le_add_right _ _) hB.1) (Nat.le_trans (Nat.le_add_right _ _) hB.2) dL_ifBond_24)
  exact main s.heap [] ls 0 0 mc ms hf hH hl ⟨by omega, by omega⟩
-- L_isCritical
def f_L_isCritical_J16 (post : Int32 → PS → Prop) (S : PS) (bc bs : Nat) (t0 : Int64) (t1 : Int32) (t2 : Nat) : Prop :=
  sL S t2 t1 t0 fun S1 => (
  post 0 S1)
def f_L_isCritical (S : PS) (a0 : Nat) (a1 : Int32) (a2 : Int32) (a3 : Nat) (bc bs : Nat) (post : Int32 → PS → Prop) : Prop :=
  isO S a0 11 (
  ∃ mc2 ms2 : Nat, mc2 ≤ bc ∧ ms2 ≤ bs ∧ (f_X7_isCritical S a0 a1 a2 mc2 ms2 (fun v3 S1 => (
    if v3 = 0 then
      f_L_isCritical_J16 post S1 (bc - mc2) (bs - ms2) 0 0 a3
    else
      f_L_isCritical_J16 post S1 (bc - mc2) (bs - ms2) 1 0 a3)) (fun E4 S4 => (
  (E4 = "java/lang/IndexOutOfBoundsException" ∧ (
    post 1 S4)) ∨
  (E4 = "java/lang/IllegalStateException" ∧ (
    post 2 S4))))))
abbrev rm_L_isCritical (mc ms : Nat) : Room := { frames := 7, cells := mc, slots := ms, locals := 160 }
set_option maxHeartbeats 4000000 in
set_option maxRecDepth 100000 in
theorem c_L_isCritical (l : Launch) (D : va_G) (cy : Nat → ClassId) (G : p_GT) (hG : p_ok G) (hst : l.stackTraces = false) (hGE : ∀ (A : Nat → Prop) (U : State) (H : Heap), G A U H → p_Ex A U H) (hGN : ∀ (A : Nat → Prop) (U : State) (H : Heap), G A U H → gN A U H) (S : PS) (a0 : Nat) (a1 : Int32) (a2 : Int32) (a3 : Nat) (mc ms : Nat) (post : Int32 → PS → Prop) (sz : Nat) (hf : f_L_isCritical S a0 a1 a2 a3 mc ms post) : p_Xi l D cy G S sz yL_isCritical (Cond.codeWith yL_isCritical cL_isCritical 5 (some .int) [(0, 17, 20, 39), (0, 17, 24, 91)] :: wG) (rm_L_isCritical mc ms) [.ref a0, .int a1, .int a2, .ref a3] mc ms post (fun _ _ => False) := by
  refine q_startH hG (Qc := fun A => va_Qi post (p_Post D cy A) A) (XC := fun A => p_XC D cy A (fun _ _ => False)) mw_L_isCritical (Nat.le_of_ble_eq_true rfl) (own := RL) rfl ?_
  intro p e s m below meth c A X hr hlk hnm htab ls hl hH
  have hx := X.1.1
  have hb := X.1.2.1
  replace hl : lv_has ls 5 [(0, .ref a0), (1, .int a1), (2, .int a2), (3, .ref a3)] := hl
  have main : ∀ (H : Heap) (locs : List Loc) (ls : Array Slot) (cells slots bc bs : Nat), f_L_isCritical S a0 a1 a2 a3 bc bs post → p_H D cy S A s H locs → lv_has ls 5 [(0, .ref a0), (1, .int a1), (2, .int a2), (3, .ref a3)] → cells + bc ≤ mc ∧ slots + bs ≤ ms → W p l e (rm_L_isCritical mc ms) s m [.ref a0, .int a1, .int a2, .ref a3].toArray below meth c H locs cells slots (vx_MQ below (va_Qi post (p_Post D cy A) A) (p_XC D cy A (fun _ _ => False)) [.ref a0, .int a1, .int a2, .ref a3].toArray s mc ms A) (F0 m 0 ls []) := by
    intro H locs ls cells slots bc bs hf hH hl hB
    have hJ16 : ∀ (S : PS) (bc bs : Nat) (t0 : Int64) (t1 : Int32) (t2 : Nat), f_L_isCritical_J16 post S bc bs t0 t1 t2 → ∀ (H : Heap) (locs : List Loc) (ls : Array Slot) (cells slots : Nat), p_H D cy S A s H locs → lv_has ls 5 [] → cells + bc ≤ mc ∧ slots + bs ≤ ms → W p l e (rm_L_isCritical mc ms) s m [.ref a0, .int a1, .int a2, .ref a3].toArray below meth c H locs cells slots (vx_MQ below (va_Qi post (p_Post D cy A) A) (p_XC D cy A (fun _ _ => False)) [.ref a0, .int a1, .int a2, .ref a3].toArray s mc ms A) (F0 m 16 ls [.long t0, .int t1, .ref t2]) := by
      intro S bc bs t0 t1 t2 hf H locs ls cells slots hH hl hB
      refine q_last X hH hf dL_isCritical_16 (fun S1 hf H locs hH => ?_)
      refine lv_goto (tgt := 28) hx hb dL_isCritical_17 (by decide) ?_
      refine lv_iconst (v := 0) hx hb dL_isCritical_28 (by decide) ?_
      exact vx_ret (q_retI X hH hr hlk hf (Nat.le_trans (Nat.le_add_right _ _) hB.1) (Nat.le_trans (Nat.le_add_right _ _) hB.2) dL_isCritical_29)
    refine lv_aload_n hx hb dL_isCritical_0 rfl (lv_at hl 3 rfl) ?_
    refine lv_iconst (v := 0) hx hb dL_isCritical_1 (by decide) ?_
    refine lv_aload_n hx hb dL_isCritical_2 rfl (lv_at hl 0 rfl) ?_
    refine lv_iload_n hx hb dL_isCritical_3 rfl (lv_at hl 1 rfl) ?_
    refine lv_iload_n hx hb dL_isCritical_4 rfl (lv_at hl 2 rfl) ?_
    obtain ⟨hb1, hb2, mc2, ms2, hm1, hs1, hf⟩ := hf
    refine q_callXi X hH hB hm1 hs1 (q_runVx [.int a1, .int a2] [.int 0, .ref a3] X hH hl (c_X7_isCritical l D cy G X.2.2.2.1 hst hGE S a0 a1 a2 mc2 ms2 _ _ _ hf) mf_X7_isCritical mv_X7_isCritical tw_1285 ⟨Nat.le_of_ble_eq_true rfl, Nat.le_of_ble_eq_true rfl⟩ hb1 hb2 (T := TX7) (N := 12) rfl rfl (Nat.le_of_ble_eq_true rfl) dL_isCritical_5 ⟨Nat.le_trans (Nat.add_le_add_left hm1 _) hB.1, Nat.le_trans (Nat.add_le_add_left hs1 _) hB.2⟩) (fun E4 ce q9 S4 hf H locs cells slots hH hB hc1 hc2 hc3 => ?_) (fun v3 S1 hf H locs cells slots hH hB => ?_)
    · rcases hf with ⟨rfl, hf⟩ | ⟨rfl, hf⟩
      · refine vx_catch X.1.2.2.2.1 [] ⟨0, 17, 20, 39⟩ [⟨0, 17, 24, 91⟩] htab (fun z hz => nomatch hz) (by decide) (by decide) (X.1.2.2.2.2 _ tw_1099) (va_Nw.use (by decide +kernel) ((hGE _ _ _ X.2.2.2.2).1 _ (List.mem_of_getElem? (i := 4) rfl))) hc1 hc2 hc3 ?_
        refine lv_astore (lv' := [(4, .ref q9), (0, .ref a0), (1, .int a1), (2, .int a2), (3, .ref a3)]) hx hb dL_isCritical_20 hl (by decide) rfl (fun ls hl => ?_)
        refine lv_iconst (v := 1) hx hb dL_isCritical_22 (by decide) ?_
        exact vx_ret (q_retI X hH hr hlk hf (Nat.le_trans (Nat.le_add_right _ _) hB.1) (Nat.le_trans (Nat.le_add_right _ _) hB.2) dL_isCritical_23)
      · refine vx_catch X.1.2.2.2.1 [⟨0, 17, 20, 39⟩] ⟨0, 17, 24, 91⟩ [] htab (fun z hz => by rcases List.mem_singleton.mp hz with rfl; exact Or.inr ⟨(by decide), "java/lang/IndexOutOfBoundsException", X.1.2.2.2.2 _ tw_1099, hGN _ _ _ X.2.2.2.2 _ (List.mem_of_getElem? (i := 2) rfl)⟩) (by decide) (by decide) (X.1.2.2.2.2 _ tw_1284) (va_Nw.use (by decide +kernel) ((hGE _ _ _ X.2.2.2.2).1 _ (List.mem_of_getElem? (i := 7) rfl))) hc1 hc2 hc3 ?_
        refine lv_astore (lv' := [(4, .ref q9), (0, .ref a0), (1, .int a1), (2, .int a2), (3, .ref a3)]) hx hb dL_isCritical_24 hl (by decide) rfl (fun ls hl => ?_)
        refine lv_iconst (v := 2) hx hb dL_isCritical_26 (by decide) ?_
        exact vx_ret (q_retI X hH hr hlk hf (Nat.le_trans (Nat.le_add_right _ _) hB.1) (Nat.le_trans (Nat.le_add_right _ _) hB.2) dL_isCritical_27)
    · refine lv_if_eq (tgt := 15) hx hb dL_isCritical_8 (by decide) (fun c5 => ?_) (fun c5 => ?_)
      · have hf := (if_pos c5).mp hf
        refine lv_lconst (v := 0) hx hb dL_isCritical_15 (by decide) ?_
        exact hJ16 S1 (bc - mc2) (bs - ms2) 0 0 a3 hf H locs ls cells slots hH (lv_sub hl [] rfl) hB
      · have hf := (if_neg c5).mp hf
        refine lv_lconst (v := 1) hx hb dL_isCritical_11 (by decide) ?_
        refine lv_goto (tgt := 16) hx hb dL_isCritical_12 (by decide) ?_
        exact hJ16 S1 (bc - mc2) (bs - ms2) 1 0 a3 hf H locs ls cells slots hH (lv_sub hl [] rfl) hB
  exact main s.heap [] ls 0 0 mc ms hf hH hl ⟨by omega, by omega⟩
-- L_tellPhase
def f_L_tellPhase (S : PS) (a0 : Nat) (a1 : Int32) (a2 : Nat) (bc bs : Nat) (post : Int32 → PS → Prop) : Prop :=
  isO S a0 11 (
  ∃ mc2 ms2 : Nat, mc2 ≤ bc ∧ ms2 ≤ bs ∧ (f_X7_tellPhase S a0 a1 mc2 ms2 (fun v3 S1 => (
    sL S1 a2 0 v3.toInt64 fun S5 => (
    post 0 S5))) (fun E4 S4 => (
  (E4 = "java/lang/IndexOutOfBoundsException" ∧ (
    post 1 S4))))))
abbrev rm_L_tellPhase (mc ms : Nat) : Room := { frames := 8, cells := mc, slots := ms, locals := 192 }
set_option maxHeartbeats 4000000 in
set_option maxRecDepth 100000 in
theorem c_L_tellPhase (l : Launch) (D : va_G) (cy : Nat → ClassId) (G : p_GT) (hG : p_ok G) (hGC : ∀ (A : Nat → Prop) (U : State) (H : Heap), G A U H → gC A U H) (hst : l.stackTraces = false) (hGE : ∀ (A : Nat → Prop) (U : State) (H : Heap), G A U H → p_Ex A U H) (dT dO : Nat) (hGT : ∀ (A : Nat → Prop) (U : State) (H : Heap), G A U H → gT dT dO A U H) (hGU : ∀ (A : Nat → Prop) (U : State) (H : Heap), G A U H → gU A U H) (S : PS) (a0 : Nat) (a1 : Int32) (a2 : Nat) (mc ms : Nat) (post : Int32 → PS → Prop) (sz : Nat) (hf : f_L_tellPhase S a0 a1 a2 mc ms post) : p_Xi l D cy G S sz yL_tellPhase (Cond.codeWith yL_tellPhase cL_tellPhase 4 (some .int) [(0, 9, 12, 39)] :: wG) (rm_L_tellPhase mc ms) [.ref a0, .int a1, .ref a2] mc ms post (fun _ _ => False) := by
  refine q_startH hG (Qc := fun A => va_Qi post (p_Post D cy A) A) (XC := fun A => p_XC D cy A (fun _ _ => False)) mw_L_tellPhase (Nat.le_of_ble_eq_true rfl) (own := RL) rfl ?_
  intro p e s m below meth c A X hr hlk hnm htab ls hl hH
  have hx := X.1.1
  have hb := X.1.2.1
  replace hl : lv_has ls 4 [(0, .ref a0), (1, .int a1), (2, .ref a2)] := hl
  have main : ∀ (H : Heap) (locs : List Loc) (ls : Array Slot) (cells slots bc bs : Nat), f_L_tellPhase S a0 a1 a2 bc bs post → p_H D cy S A s H locs → lv_has ls 4 [(0, .ref a0), (1, .int a1), (2, .ref a2)] → cells + bc ≤ mc ∧ slots + bs ≤ ms → W p l e (rm_L_tellPhase mc ms) s m [.ref a0, .int a1, .ref a2].toArray below meth c H locs cells slots (vx_MQ below (va_Qi post (p_Post D cy A) A) (p_XC D cy A (fun _ _ => False)) [.ref a0, .int a1, .ref a2].toArray s mc ms A) (F0 m 0 ls []) := by
    intro H locs ls cells slots bc bs hf hH hl hB
    refine lv_aload_n hx hb dL_tellPhase_0 rfl (lv_at hl 2 rfl) ?_
    refine lv_iconst (v := 0) hx hb dL_tellPhase_1 (by decide) ?_
    refine lv_aload_n hx hb dL_tellPhase_2 rfl (lv_at hl 0 rfl) ?_
    refine lv_iload_n hx hb dL_tellPhase_3 rfl (lv_at hl 1 rfl) ?_
    obtain ⟨hb1, hb2, mc2, ms2, hm1, hs1, hf⟩ := hf
    refine q_callXi X hH hB hm1 hs1 (q_runVx [.int a1] [.int 0, .ref a2] X hH hl (c_X7_tellPhase l D cy G X.2.2.2.1 hGC hst hGE dT dO hGT hGU S a0 a1 mc2 ms2 _ _ _ hf) mf_X7_tellPhase mv_X7_tellPhase tw_1506 ⟨Nat.le_of_ble_eq_true rfl, Nat.le_of_ble_eq_true rfl⟩ hb1 hb2 (T := TX7) (N := 12) rfl rfl (Nat.le_of_ble_eq_true rfl) dL_tellPhase_4 ⟨Nat.le_trans (Nat.add_le_add_left hm1 _) hB.1, Nat.le_trans (Nat.add_le_add_left hs1 _) hB.2⟩) (fun E4 ce q9 S4 hf H locs cells slots hH hB hc1 hc2 hc3 => ?_) (fun v3 S1 hf H locs cells slots hH hB => ?_)
    · rcases hf with ⟨rfl, hf⟩
      · refine vx_catch X.1.2.2.2.1 [] ⟨0, 9, 12, 39⟩ [] htab (fun z hz => nomatch hz) (by decide) (by decide) (X.1.2.2.2.2 _ tw_1099) (va_Nw.use (by decide +kernel) ((hGE _ _ _ X.2.2.2.2).1 _ (List.mem_of_getElem? (i := 4) rfl))) hc1 hc2 hc3 ?_
        refine lv_astore_n (lv' := [(3, .ref q9), (0, .ref a0), (1, .int a1), (2, .ref a2)]) hx hb dL_tellPhase_12 rfl hl (by decide) rfl (fun ls hl => ?_)
        refine lv_iconst (v := 1) hx hb dL_tellPhase_13 (by decide) ?_
        exact vx_ret (q_retI X hH hr hlk hf (Nat.le_trans (Nat.le_add_right _ _) hB.1) (Nat.le_trans (Nat.le_add_right _ _) hB.2) dL_tellPhase_14)
    · refine lv_i2l (v := v3.toInt64) hx hb dL_tellPhase_7 rfl ?_
      refine q_last X hH hf dL_tellPhase_8 (fun S5 hf H locs hH => ?_)
      refine lv_goto (tgt := 15) hx hb dL_tellPhase_9 (by decide) ?_
      refine lv_iconst (v := 0) hx hb dL_tellPhase_15 (by decide) ?_
      exact vx_ret (q_retI X hH hr hlk hf (Nat.le_trans (Nat.le_add_right _ _) hB.1) (Nat.le_trans (Nat.le_add_right _ _) hB.2) dL_tellPhase_16)
  exact main s.heap [] ls 0 0 mc ms hf hH hl ⟨by omega, by omega⟩
-- L_household
def f_L_household (S : PS) (a0 : Nat) (a1 : Nat) (bc bs : Nat) (post : Int32 → PS → Prop) : Prop :=
  isO S a0 11 (
  ∃ mc2 ms2 : Nat, mc2 ≤ bc ∧ ms2 ≤ bs ∧ (f_X7_household S a0 mc2 ms2 (fun v3 S1 => (
    sL S1 a1 0 v3.toInt64 fun S5 => (
    post 0 S5))) (fun E4 S4 => (
  (E4 = "java/lang/UnsupportedOperationException" ∧ (
    post 1 S4))))))
abbrev rm_L_household (mc ms : Nat) : Room := { frames := 8, cells := mc, slots := ms, locals := 176 }
set_option maxHeartbeats 4000000 in
set_option maxRecDepth 100000 in
theorem c_L_household (l : Launch) (D : va_G) (cy : Nat → ClassId) (G : p_GT) (hG : p_ok G) (hst : l.stackTraces = false) (hGE : ∀ (A : Nat → Prop) (U : State) (H : Heap), G A U H → p_Ex A U H) (S : PS) (a0 : Nat) (a1 : Nat) (mc ms : Nat) (post : Int32 → PS → Prop) (sz : Nat) (hf : f_L_household S a0 a1 mc ms post) : p_Xi l D cy G S sz yL_household (Cond.codeWith yL_household cL_household 3 (some .int) [(0, 8, 11, 13)] :: wG) (rm_L_household mc ms) [.ref a0, .ref a1] mc ms post (fun _ _ => False) := by
  refine q_startH hG (Qc := fun A => va_Qi post (p_Post D cy A) A) (XC := fun A => p_XC D cy A (fun _ _ => False)) mw_L_household (Nat.le_of_ble_eq_true rfl) (own := RL) rfl ?_
  intro p e s m below meth c A X hr hlk hnm htab ls hl hH
  have hx := X.1.1
  have hb := X.1.2.1
  replace hl : lv_has ls 3 [(0, .ref a0), (1, .ref a1)] := hl
  have main : ∀ (H : Heap) (locs : List Loc) (ls : Array Slot) (cells slots bc bs : Nat), f_L_household S a0 a1 bc bs post → p_H D cy S A s H locs → lv_has ls 3 [(0, .ref a0), (1, .ref a1)] → cells + bc ≤ mc ∧ slots + bs ≤ ms → W p l e (rm_L_household mc ms) s m [.ref a0, .ref a1].toArray below meth c H locs cells slots (vx_MQ below (va_Qi post (p_Post D cy A) A) (p_XC D cy A (fun _ _ => False)) [.ref a0, .ref a1].toArray s mc ms A) (F0 m 0 ls []) := by
    intro H locs ls cells slots bc bs hf hH hl hB
    refine lv_aload_n hx hb dL_household_0 rfl (lv_at hl 1 rfl) ?_
    refine lv_iconst (v := 0) hx hb dL_household_1 (by decide) ?_
    refine lv_aload_n hx hb dL_household_2 rfl (lv_at hl 0 rfl) ?_
    obtain ⟨hb1, hb2, mc2, ms2, hm1, hs1, hf⟩ := hf
    refine q_callXi X hH hB hm1 hs1 (q_runVx [] [.int 0, .ref a1] X hH hl (c_X7_household l D cy G X.2.2.2.1 hst hGE S a0 mc2 ms2 _ _ _ hf) mf_X7_household mv_X7_household tw_953 ⟨Nat.le_of_ble_eq_true rfl, Nat.le_of_ble_eq_true rfl⟩ hb1 hb2 (T := TX7) (N := 12) rfl rfl (Nat.le_of_ble_eq_true rfl) dL_household_3 ⟨Nat.le_trans (Nat.add_le_add_left hm1 _) hB.1, Nat.le_trans (Nat.add_le_add_left hs1 _) hB.2⟩) (fun E4 ce q9 S4 hf H locs cells slots hH hB hc1 hc2 hc3 => ?_) (fun v3 S1 hf H locs cells slots hH hB => ?_)
    · rcases hf with ⟨rfl, hf⟩
      · refine vx_catch X.1.2.2.2.1 [] ⟨0, 8, 11, 13⟩ [] htab (fun z hz => nomatch hz) (by decide) (by decide) (X.1.2.2.2.2 _ tw_952) (va_Nw.use (by decide +kernel) ((hGE _ _ _ X.2.2.2.2).1 _ (List.mem_of_getElem? (i := 3) rfl))) hc1 hc2 hc3 ?_
        refine lv_astore_n (lv' := [(2, .ref q9), (0, .ref a0), (1, .ref a1)]) hx hb dL_household_11 rfl hl (by decide) rfl (fun ls hl => ?_)
        refine lv_iconst (v := 1) hx hb dL_household_12 (by decide) ?_
        exact vx_ret (q_retI X hH hr hlk hf (Nat.le_trans (Nat.le_add_right _ _) hB.1) (Nat.le_trans (Nat.le_add_right _ _) hB.2) dL_household_13)
    · refine lv_i2l (v := v3.toInt64) hx hb dL_household_6 rfl ?_
      refine q_last X hH hf dL_household_7 (fun S5 hf H locs hH => ?_)
      refine lv_goto (tgt := 14) hx hb dL_household_8 (by decide) ?_
      refine lv_iconst (v := 0) hx hb dL_household_14 (by decide) ?_
      exact vx_ret (q_retI X hH hr hlk hf (Nat.le_trans (Nat.le_add_right _ _) hB.1) (Nat.le_trans (Nat.le_add_right _ _) hB.2) dL_household_15)
  exact main s.heap [] ls 0 0 mc ms hf hH hl ⟨by omega, by omega⟩
-- L_leave
def f_L_leave (S : PS) (a0 : Nat) (a1 : Int32) (a2 : Nat) (bc bs : Nat) (post : Int32 → PS → Prop) : Prop :=
  isO S a0 11 (
  ∃ mc2 ms2 : Nat, mc2 ≤ bc ∧ ms2 ≤ bs ∧ (f_X7_leave S a0 a1 mc2 ms2 (fun v3 S1 => (
    sL S1 a2 0 v3.toInt64 fun S5 => (
    post 0 S5))) (fun E4 S4 => (
  (E4 = "java/lang/UnsupportedOperationException" ∧ (
    post 1 S4))))))
abbrev rm_L_leave (mc ms : Nat) : Room := { frames := 8, cells := mc, slots := ms, locals := 177 }
set_option maxHeartbeats 4000000 in
set_option maxRecDepth 100000 in
theorem c_L_leave (l : Launch) (D : va_G) (cy : Nat → ClassId) (G : p_GT) (hG : p_ok G) (hst : l.stackTraces = false) (hGE : ∀ (A : Nat → Prop) (U : State) (H : Heap), G A U H → p_Ex A U H) (S : PS) (a0 : Nat) (a1 : Int32) (a2 : Nat) (mc ms : Nat) (post : Int32 → PS → Prop) (sz : Nat) (hf : f_L_leave S a0 a1 a2 mc ms post) : p_Xi l D cy G S sz yL_leave (Cond.codeWith yL_leave cL_leave 4 (some .int) [(0, 9, 12, 13)] :: wG) (rm_L_leave mc ms) [.ref a0, .int a1, .ref a2] mc ms post (fun _ _ => False) := by
  refine q_startH hG (Qc := fun A => va_Qi post (p_Post D cy A) A) (XC := fun A => p_XC D cy A (fun _ _ => False)) mw_L_leave (Nat.le_of_ble_eq_true rfl) (own := RL) rfl ?_
  intro p e s m below meth c A X hr hlk hnm htab ls hl hH
  have hx := X.1.1
  have hb := X.1.2.1
  replace hl : lv_has ls 4 [(0, .ref a0), (1, .int a1), (2, .ref a2)] := hl
  have main : ∀ (H : Heap) (locs : List Loc) (ls : Array Slot) (cells slots bc bs : Nat), f_L_leave S a0 a1 a2 bc bs post → p_H D cy S A s H locs → lv_has ls 4 [(0, .ref a0), (1, .int a1), (2, .ref a2)] → cells + bc ≤ mc ∧ slots + bs ≤ ms → W p l e (rm_L_leave mc ms) s m [.ref a0, .int a1, .ref a2].toArray below meth c H locs cells slots (vx_MQ below (va_Qi post (p_Post D cy A) A) (p_XC D cy A (fun _ _ => False)) [.ref a0, .int a1, .ref a2].toArray s mc ms A) (F0 m 0 ls []) := by
    intro H locs ls cells slots bc bs hf hH hl hB
    refine lv_aload_n hx hb dL_leave_0 rfl (lv_at hl 2 rfl) ?_
    refine lv_iconst (v := 0) hx hb dL_leave_1 (by decide) ?_
    refine lv_aload_n hx hb dL_leave_2 rfl (lv_at hl 0 rfl) ?_
    refine lv_iload_n hx hb dL_leave_3 rfl (lv_at hl 1 rfl) ?_
    obtain ⟨hb1, hb2, mc2, ms2, hm1, hs1, hf⟩ := hf
    refine q_callXi X hH hB hm1 hs1 (q_runVx [.int a1] [.int 0, .ref a2] X hH hl (c_X7_leave l D cy G X.2.2.2.1 hst hGE S a0 a1 mc2 ms2 _ _ _ hf) mf_X7_leave mv_X7_leave tw_1051 ⟨Nat.le_of_ble_eq_true rfl, Nat.le_of_ble_eq_true rfl⟩ hb1 hb2 (T := TX7) (N := 12) rfl rfl (Nat.le_of_ble_eq_true rfl) dL_leave_4 ⟨Nat.le_trans (Nat.add_le_add_left hm1 _) hB.1, Nat.le_trans (Nat.add_le_add_left hs1 _) hB.2⟩) (fun E4 ce q9 S4 hf H locs cells slots hH hB hc1 hc2 hc3 => ?_) (fun v3 S1 hf H locs cells slots hH hB => ?_)
    · rcases hf with ⟨rfl, hf⟩
      · refine vx_catch X.1.2.2.2.1 [] ⟨0, 9, 12, 13⟩ [] htab (fun z hz => nomatch hz) (by decide) (by decide) (X.1.2.2.2.2 _ tw_952) (va_Nw.use (by decide +kernel) ((hGE _ _ _ X.2.2.2.2).1 _ (List.mem_of_getElem? (i := 3) rfl))) hc1 hc2 hc3 ?_
        refine lv_astore_n (lv' := [(3, .ref q9), (0, .ref a0), (1, .int a1), (2, .ref a2)]) hx hb dL_leave_12 rfl hl (by decide) rfl (fun ls hl => ?_)
        refine lv_iconst (v := 1) hx hb dL_leave_13 (by decide) ?_
        exact vx_ret (q_retI X hH hr hlk hf (Nat.le_trans (Nat.le_add_right _ _) hB.1) (Nat.le_trans (Nat.le_add_right _ _) hB.2) dL_leave_14)
    · refine lv_i2l (v := v3.toInt64) hx hb dL_leave_7 rfl ?_
      refine q_last X hH hf dL_leave_8 (fun S5 hf H locs hH => ?_)
      refine lv_goto (tgt := 15) hx hb dL_leave_9 (by decide) ?_
      refine lv_iconst (v := 0) hx hb dL_leave_15 (by decide) ?_
      exact vx_ret (q_retI X hH hr hlk hf (Nat.le_trans (Nat.le_add_right _ _) hB.1) (Nat.le_trans (Nat.le_add_right _ _) hB.2) dL_leave_16)
  exact main s.heap [] ls 0 0 mc ms hf hH hl ⟨by omega, by omega⟩
-- L_bond
def f_L_bond (S : PS) (a0 : Nat) (a1 : Int32) (a2 : Int32) (a3 : Int32) (a4 : Nat) (bc bs : Nat) (post : Int32 → PS → Prop) : Prop :=
  isO S a0 11 (
  ∃ mc2 ms2 : Nat, mc2 ≤ bc ∧ ms2 ≤ bs ∧ (f_X7_bond S a0 a1 a2 a3 mc2 ms2 (fun v3 S1 => (
    sL S1 a4 0 v3.toInt64 fun S5 => (
    post 0 S5))) (fun E4 S4 => (
  (E4 = "java/lang/UnsupportedOperationException" ∧ (
    post 1 S4))))))
abbrev rm_L_bond (mc ms : Nat) : Room := { frames := 8, cells := mc, slots := ms, locals := 179 }
set_option maxHeartbeats 4000000 in
set_option maxRecDepth 100000 in
theorem c_L_bond (l : Launch) (D : va_G) (cy : Nat → ClassId) (G : p_GT) (hG : p_ok G) (hst : l.stackTraces = false) (hGE : ∀ (A : Nat → Prop) (U : State) (H : Heap), G A U H → p_Ex A U H) (S : PS) (a0 : Nat) (a1 : Int32) (a2 : Int32) (a3 : Int32) (a4 : Nat) (mc ms : Nat) (post : Int32 → PS → Prop) (sz : Nat) (hf : f_L_bond S a0 a1 a2 a3 a4 mc ms post) : p_Xi l D cy G S sz yL_bond (Cond.codeWith yL_bond cL_bond 6 (some .int) [(0, 12, 15, 13)] :: wG) (rm_L_bond mc ms) [.ref a0, .int a1, .int a2, .int a3, .ref a4] mc ms post (fun _ _ => False) := by
  refine q_startH hG (Qc := fun A => va_Qi post (p_Post D cy A) A) (XC := fun A => p_XC D cy A (fun _ _ => False)) mw_L_bond (Nat.le_of_ble_eq_true rfl) (own := RL) rfl ?_
  intro p e s m below meth c A X hr hlk hnm htab ls hl hH
  have hx := X.1.1
  have hb := X.1.2.1
  replace hl : lv_has ls 6 [(0, .ref a0), (1, .int a1), (2, .int a2), (3, .int a3), (4, .ref a4)] := hl
  have main : ∀ (H : Heap) (locs : List Loc) (ls : Array Slot) (cells slots bc bs : Nat), f_L_bond S a0 a1 a2 a3 a4 bc bs post → p_H D cy S A s H locs → lv_has ls 6 [(0, .ref a0), (1, .int a1), (2, .int a2), (3, .int a3), (4, .ref a4)] → cells + bc ≤ mc ∧ slots + bs ≤ ms → W p l e (rm_L_bond mc ms) s m [.ref a0, .int a1, .int a2, .int a3, .ref a4].toArray below meth c H locs cells slots (vx_MQ below (va_Qi post (p_Post D cy A) A) (p_XC D cy A (fun _ _ => False)) [.ref a0, .int a1, .int a2, .int a3, .ref a4].toArray s mc ms A) (F0 m 0 ls []) := by
    intro H locs ls cells slots bc bs hf hH hl hB
    refine lv_aload hx hb dL_bond_0 (lv_at hl 4 rfl) ?_
    refine lv_iconst (v := 0) hx hb dL_bond_2 (by decide) ?_
    refine lv_aload_n hx hb dL_bond_3 rfl (lv_at hl 0 rfl) ?_
    refine lv_iload_n hx hb dL_bond_4 rfl (lv_at hl 1 rfl) ?_
    refine lv_iload_n hx hb dL_bond_5 rfl (lv_at hl 2 rfl) ?_
    refine lv_iload_n hx hb dL_bond_6 rfl (lv_at hl 3 rfl) ?_
    obtain ⟨hb1, hb2, mc2, ms2, hm1, hs1, hf⟩ := hf
    refine q_callXi X hH hB hm1 hs1 (q_runVx [.int a1, .int a2, .int a3] [.int 0, .ref a4] X hH hl (c_X7_bond l D cy G X.2.2.2.1 hst hGE S a0 a1 a2 a3 mc2 ms2 _ _ _ hf) mf_X7_bond mv_X7_bond tw_1059 ⟨Nat.le_of_ble_eq_true rfl, Nat.le_of_ble_eq_true rfl⟩ hb1 hb2 (T := TX7) (N := 12) rfl rfl (Nat.le_of_ble_eq_true rfl) dL_bond_7 ⟨Nat.le_trans (Nat.add_le_add_left hm1 _) hB.1, Nat.le_trans (Nat.add_le_add_left hs1 _) hB.2⟩) (fun E4 ce q9 S4 hf H locs cells slots hH hB hc1 hc2 hc3 => ?_) (fun v3 S1 hf H locs cells slots hH hB => ?_)
    · rcases hf with ⟨rfl, hf⟩
      · refine vx_catch X.1.2.2.2.1 [] ⟨0, 12, 15, 13⟩ [] htab (fun z hz => nomatch hz) (by decide) (by decide) (X.1.2.2.2.2 _ tw_952) (va_Nw.use (by decide +kernel) ((hGE _ _ _ X.2.2.2.2).1 _ (List.mem_of_getElem? (i := 3) rfl))) hc1 hc2 hc3 ?_
        refine lv_astore (lv' := [(5, .ref q9), (0, .ref a0), (1, .int a1), (2, .int a2), (3, .int a3), (4, .ref a4)]) hx hb dL_bond_15 hl (by decide) rfl (fun ls hl => ?_)
        refine lv_iconst (v := 1) hx hb dL_bond_17 (by decide) ?_
        exact vx_ret (q_retI X hH hr hlk hf (Nat.le_trans (Nat.le_add_right _ _) hB.1) (Nat.le_trans (Nat.le_add_right _ _) hB.2) dL_bond_18)
    · refine lv_i2l (v := v3.toInt64) hx hb dL_bond_10 rfl ?_
      refine q_last X hH hf dL_bond_11 (fun S5 hf H locs hH => ?_)
      refine lv_goto (tgt := 19) hx hb dL_bond_12 (by decide) ?_
      refine lv_iconst (v := 0) hx hb dL_bond_19 (by decide) ?_
      exact vx_ret (q_retI X hH hr hlk hf (Nat.le_trans (Nat.le_add_right _ _) hB.1) (Nat.le_trans (Nat.le_add_right _ _) hB.2) dL_bond_20)
  exact main s.heap [] ls 0 0 mc ms hf hH hl ⟨by omega, by omega⟩
-- L_loosen
def f_L_loosen (S : PS) (a0 : Nat) (a1 : Int32) (a2 : Int32) (a3 : Nat) (bc bs : Nat) (post : Int32 → PS → Prop) : Prop :=
  isO S a0 11 (
  ∃ mc2 ms2 : Nat, mc2 ≤ bc ∧ ms2 ≤ bs ∧ (f_X7_loosen S a0 a1 a2 mc2 ms2 (fun v3 S1 => (
    sL S1 a3 0 v3.toInt64 fun S5 => (
    post 0 S5))) (fun E4 S4 => (
  (E4 = "java/lang/UnsupportedOperationException" ∧ (
    post 1 S4))))))
abbrev rm_L_loosen (mc ms : Nat) : Room := { frames := 8, cells := mc, slots := ms, locals := 178 }
set_option maxHeartbeats 4000000 in
set_option maxRecDepth 100000 in
theorem c_L_loosen (l : Launch) (D : va_G) (cy : Nat → ClassId) (G : p_GT) (hG : p_ok G) (hst : l.stackTraces = false) (hGE : ∀ (A : Nat → Prop) (U : State) (H : Heap), G A U H → p_Ex A U H) (S : PS) (a0 : Nat) (a1 : Int32) (a2 : Int32) (a3 : Nat) (mc ms : Nat) (post : Int32 → PS → Prop) (sz : Nat) (hf : f_L_loosen S a0 a1 a2 a3 mc ms post) : p_Xi l D cy G S sz yL_loosen (Cond.codeWith yL_loosen cL_loosen 5 (some .int) [(0, 10, 13, 13)] :: wG) (rm_L_loosen mc ms) [.ref a0, .int a1, .int a2, .ref a3] mc ms post (fun _ _ => False) := by
  refine q_startH hG (Qc := fun A => va_Qi post (p_Post D cy A) A) (XC := fun A => p_XC D cy A (fun _ _ => False)) mw_L_loosen (Nat.le_of_ble_eq_true rfl) (own := RL) rfl ?_
  intro p e s m below meth c A X hr hlk hnm htab ls hl hH
  have hx := X.1.1
  have hb := X.1.2.1
  replace hl : lv_has ls 5 [(0, .ref a0), (1, .int a1), (2, .int a2), (3, .ref a3)] := hl
  have main : ∀ (H : Heap) (locs : List Loc) (ls : Array Slot) (cells slots bc bs : Nat), f_L_loosen S a0 a1 a2 a3 bc bs post → p_H D cy S A s H locs → lv_has ls 5 [(0, .ref a0), (1, .int a1), (2, .int a2), (3, .ref a3)] → cells + bc ≤ mc ∧ slots + bs ≤ ms → W p l e (rm_L_loosen mc ms) s m [.ref a0, .int a1, .int a2, .ref a3].toArray below meth c H locs cells slots (vx_MQ below (va_Qi post (p_Post D cy A) A) (p_XC D cy A (fun _ _ => False)) [.ref a0, .int a1, .int a2, .ref a3].toArray s mc ms A) (F0 m 0 ls []) := by
    intro H locs ls cells slots bc bs hf hH hl hB
    refine lv_aload_n hx hb dL_loosen_0 rfl (lv_at hl 3 rfl) ?_
    refine lv_iconst (v := 0) hx hb dL_loosen_1 (by decide) ?_
    refine lv_aload_n hx hb dL_loosen_2 rfl (lv_at hl 0 rfl) ?_
    refine lv_iload_n hx hb dL_loosen_3 rfl (lv_at hl 1 rfl) ?_
    refine lv_iload_n hx hb dL_loosen_4 rfl (lv_at hl 2 rfl) ?_
    obtain ⟨hb1, hb2, mc2, ms2, hm1, hs1, hf⟩ := hf
    refine q_callXi X hH hB hm1 hs1 (q_runVx [.int a1, .int a2] [.int 0, .ref a3] X hH hl (c_X7_loosen l D cy G X.2.2.2.1 hst hGE S a0 a1 a2 mc2 ms2 _ _ _ hf) mf_X7_loosen mv_X7_loosen tw_1067 ⟨Nat.le_of_ble_eq_true rfl, Nat.le_of_ble_eq_true rfl⟩ hb1 hb2 (T := TX7) (N := 12) rfl rfl (Nat.le_of_ble_eq_true rfl) dL_loosen_5 ⟨Nat.le_trans (Nat.add_le_add_left hm1 _) hB.1, Nat.le_trans (Nat.add_le_add_left hs1 _) hB.2⟩) (fun E4 ce q9 S4 hf H locs cells slots hH hB hc1 hc2 hc3 => ?_) (fun v3 S1 hf H locs cells slots hH hB => ?_)
    · rcases hf with ⟨rfl, hf⟩
      · refine vx_catch X.1.2.2.2.1 [] ⟨0, 10, 13, 13⟩ [] htab (fun z hz => nomatch hz) (by decide) (by decide) (X.1.2.2.2.2 _ tw_952) (va_Nw.use (by decide +kernel) ((hGE _ _ _ X.2.2.2.2).1 _ (List.mem_of_getElem? (i := 3) rfl))) hc1 hc2 hc3 ?_
        refine lv_astore (lv' := [(4, .ref q9), (0, .ref a0), (1, .int a1), (2, .int a2), (3, .ref a3)]) hx hb dL_loosen_13 hl (by decide) rfl (fun ls hl => ?_)
        refine lv_iconst (v := 1) hx hb dL_loosen_15 (by decide) ?_
        exact vx_ret (q_retI X hH hr hlk hf (Nat.le_trans (Nat.le_add_right _ _) hB.1) (Nat.le_trans (Nat.le_add_right _ _) hB.2) dL_loosen_16)
    · refine lv_i2l (v := v3.toInt64) hx hb dL_loosen_8 rfl ?_
      refine q_last X hH hf dL_loosen_9 (fun S5 hf H locs hH => ?_)
      refine lv_goto (tgt := 17) hx hb dL_loosen_10 (by decide) ?_
      refine lv_iconst (v := 0) hx hb dL_loosen_17 (by decide) ?_
      exact vx_ret (q_retI X hH hr hlk hf (Nat.le_trans (Nat.le_add_right _ _) hB.1) (Nat.le_trans (Nat.le_add_right _ _) hB.2) dL_loosen_18)
  exact main s.heap [] ls 0 0 mc ms hf hH hl ⟨by omega, by omega⟩
-- L_marry
def f_L_marry (S : PS) (a0 : Nat) (a1 : Int32) (a2 : Int32) (a3 : Nat) (bc bs : Nat) (post : Int32 → PS → Prop) : Prop :=
  isO S a0 11 (
  ∃ mc2 ms2 : Nat, mc2 ≤ bc ∧ ms2 ≤ bs ∧ (f_X7_marry S a0 a1 a2 mc2 ms2 (fun v3 S1 => (
    sL S1 a3 0 v3.toInt64 fun S5 => (
    post 0 S5))) (fun E4 S4 => (
  (E4 = "java/lang/UnsupportedOperationException" ∧ (
    post 1 S4))))))
abbrev rm_L_marry (mc ms : Nat) : Room := { frames := 8, cells := mc, slots := ms, locals := 178 }
set_option maxHeartbeats 4000000 in
set_option maxRecDepth 100000 in
theorem c_L_marry (l : Launch) (D : va_G) (cy : Nat → ClassId) (G : p_GT) (hG : p_ok G) (hst : l.stackTraces = false) (hGE : ∀ (A : Nat → Prop) (U : State) (H : Heap), G A U H → p_Ex A U H) (S : PS) (a0 : Nat) (a1 : Int32) (a2 : Int32) (a3 : Nat) (mc ms : Nat) (post : Int32 → PS → Prop) (sz : Nat) (hf : f_L_marry S a0 a1 a2 a3 mc ms post) : p_Xi l D cy G S sz yL_marry (Cond.codeWith yL_marry cL_marry 5 (some .int) [(0, 10, 13, 13)] :: wG) (rm_L_marry mc ms) [.ref a0, .int a1, .int a2, .ref a3] mc ms post (fun _ _ => False) := by
  refine q_startH hG (Qc := fun A => va_Qi post (p_Post D cy A) A) (XC := fun A => p_XC D cy A (fun _ _ => False)) mw_L_marry (Nat.le_of_ble_eq_true rfl) (own := RL) rfl ?_
  intro p e s m below meth c A X hr hlk hnm htab ls hl hH
  have hx := X.1.1
  have hb := X.1.2.1
  replace hl : lv_has ls 5 [(0, .ref a0), (1, .int a1), (2, .int a2), (3, .ref a3)] := hl
  have main : ∀ (H : Heap) (locs : List Loc) (ls : Array Slot) (cells slots bc bs : Nat), f_L_marry S a0 a1 a2 a3 bc bs post → p_H D cy S A s H locs → lv_has ls 5 [(0, .ref a0), (1, .int a1), (2, .int a2), (3, .ref a3)] → cells + bc ≤ mc ∧ slots + bs ≤ ms → W p l e (rm_L_marry mc ms) s m [.ref a0, .int a1, .int a2, .ref a3].toArray below meth c H locs cells slots (vx_MQ below (va_Qi post (p_Post D cy A) A) (p_XC D cy A (fun _ _ => False)) [.ref a0, .int a1, .int a2, .ref a3].toArray s mc ms A) (F0 m 0 ls []) := by
    intro H locs ls cells slots bc bs hf hH hl hB
    refine lv_aload_n hx hb dL_marry_0 rfl (lv_at hl 3 rfl) ?_
    refine lv_iconst (v := 0) hx hb dL_marry_1 (by decide) ?_
    refine lv_aload_n hx hb dL_marry_2 rfl (lv_at hl 0 rfl) ?_
    refine lv_iload_n hx hb dL_marry_3 rfl (lv_at hl 1 rfl) ?_
    refine lv_iload_n hx hb dL_marry_4 rfl (lv_at hl 2 rfl) ?_
    obtain ⟨hb1, hb2, mc2, ms2, hm1, hs1, hf⟩ := hf
    refine q_callXi X hH hB hm1 hs1 (q_runVx [.int a1, .int a2] [.int 0, .ref a3] X hH hl (c_X7_marry l D cy G X.2.2.2.1 hst hGE S a0 a1 a2 mc2 ms2 _ _ _ hf) mf_X7_marry mv_X7_marry tw_1075 ⟨Nat.le_of_ble_eq_true rfl, Nat.le_of_ble_eq_true rfl⟩ hb1 hb2 (T := TX7) (N := 12) rfl rfl (Nat.le_of_ble_eq_true rfl) dL_marry_5 ⟨Nat.le_trans (Nat.add_le_add_left hm1 _) hB.1, Nat.le_trans (Nat.add_le_add_left hs1 _) hB.2⟩) (fun E4 ce q9 S4 hf H locs cells slots hH hB hc1 hc2 hc3 => ?_) (fun v3 S1 hf H locs cells slots hH hB => ?_)
    · rcases hf with ⟨rfl, hf⟩
      · refine vx_catch X.1.2.2.2.1 [] ⟨0, 10, 13, 13⟩ [] htab (fun z hz => nomatch hz) (by decide) (by decide) (X.1.2.2.2.2 _ tw_952) (va_Nw.use (by decide +kernel) ((hGE _ _ _ X.2.2.2.2).1 _ (List.mem_of_getElem? (i := 3) rfl))) hc1 hc2 hc3 ?_
        refine lv_astore (lv' := [(4, .ref q9), (0, .ref a0), (1, .int a1), (2, .int a2), (3, .ref a3)]) hx hb dL_marry_13 hl (by decide) rfl (fun ls hl => ?_)
        refine lv_iconst (v := 1) hx hb dL_marry_15 (by decide) ?_
        exact vx_ret (q_retI X hH hr hlk hf (Nat.le_trans (Nat.le_add_right _ _) hB.1) (Nat.le_trans (Nat.le_add_right _ _) hB.2) dL_marry_16)
    · refine lv_i2l (v := v3.toInt64) hx hb dL_marry_8 rfl ?_
      refine q_last X hH hf dL_marry_9 (fun S5 hf H locs hH => ?_)
      refine lv_goto (tgt := 17) hx hb dL_marry_10 (by decide) ?_
      refine lv_iconst (v := 0) hx hb dL_marry_17 (by decide) ?_
      exact vx_ret (q_retI X hH hr hlk hf (Nat.le_trans (Nat.le_add_right _ _) hB.1) (Nat.le_trans (Nat.le_add_right _ _) hB.2) dL_marry_18)
  exact main s.heap [] ls 0 0 mc ms hf hH hl ⟨by omega, by omega⟩
-- L_stand
def f_L_stand (S : PS) (a0 : Nat) (a1 : Int32) (a2 : Int32) (a3 : Nat) (bc bs : Nat) (post : Int32 → PS → Prop) : Prop :=
  isO S a0 11 (
  ∃ mc2 ms2 : Nat, mc2 ≤ bc ∧ ms2 ≤ bs ∧ (f_X7_stand S a0 a1 a2 mc2 ms2 (fun v3 S1 => (
    sL S1 a3 0 v3.toInt64 fun S5 => (
    post 0 S5))) (fun E4 S4 => (
  (E4 = "java/lang/UnsupportedOperationException" ∧ (
    post 1 S4))))))
abbrev rm_L_stand (mc ms : Nat) : Room := { frames := 8, cells := mc, slots := ms, locals := 178 }
set_option maxHeartbeats 4000000 in
set_option maxRecDepth 100000 in
theorem c_L_stand (l : Launch) (D : va_G) (cy : Nat → ClassId) (G : p_GT) (hG : p_ok G) (hst : l.stackTraces = false) (hGE : ∀ (A : Nat → Prop) (U : State) (H : Heap), G A U H → p_Ex A U H) (S : PS) (a0 : Nat) (a1 : Int32) (a2 : Int32) (a3 : Nat) (mc ms : Nat) (post : Int32 → PS → Prop) (sz : Nat) (hf : f_L_stand S a0 a1 a2 a3 mc ms post) : p_Xi l D cy G S sz yL_stand (Cond.codeWith yL_stand cL_stand 5 (some .int) [(0, 10, 13, 13)] :: wG) (rm_L_stand mc ms) [.ref a0, .int a1, .int a2, .ref a3] mc ms post (fun _ _ => False) := by
  refine q_startH hG (Qc := fun A => va_Qi post (p_Post D cy A) A) (XC := fun A => p_XC D cy A (fun _ _ => False)) mw_L_stand (Nat.le_of_ble_eq_true rfl) (own := RL) rfl ?_
  intro p e s m below meth c A X hr hlk hnm htab ls hl hH
  have hx := X.1.1
  have hb := X.1.2.1
  replace hl : lv_has ls 5 [(0, .ref a0), (1, .int a1), (2, .int a2), (3, .ref a3)] := hl
  have main : ∀ (H : Heap) (locs : List Loc) (ls : Array Slot) (cells slots bc bs : Nat), f_L_stand S a0 a1 a2 a3 bc bs post → p_H D cy S A s H locs → lv_has ls 5 [(0, .ref a0), (1, .int a1), (2, .int a2), (3, .ref a3)] → cells + bc ≤ mc ∧ slots + bs ≤ ms → W p l e (rm_L_stand mc ms) s m [.ref a0, .int a1, .int a2, .ref a3].toArray below meth c H locs cells slots (vx_MQ below (va_Qi post (p_Post D cy A) A) (p_XC D cy A (fun _ _ => False)) [.ref a0, .int a1, .int a2, .ref a3].toArray s mc ms A) (F0 m 0 ls []) := by
    intro H locs ls cells slots bc bs hf hH hl hB
    refine lv_aload_n hx hb dL_stand_0 rfl (lv_at hl 3 rfl) ?_
    refine lv_iconst (v := 0) hx hb dL_stand_1 (by decide) ?_
    refine lv_aload_n hx hb dL_stand_2 rfl (lv_at hl 0 rfl) ?_
    refine lv_iload_n hx hb dL_stand_3 rfl (lv_at hl 1 rfl) ?_
    refine lv_iload_n hx hb dL_stand_4 rfl (lv_at hl 2 rfl) ?_
    obtain ⟨hb1, hb2, mc2, ms2, hm1, hs1, hf⟩ := hf
    refine q_callXi X hH hB hm1 hs1 (q_runVx [.int a1, .int a2] [.int 0, .ref a3] X hH hl (c_X7_stand l D cy G X.2.2.2.1 hst hGE S a0 a1 a2 mc2 ms2 _ _ _ hf) mf_X7_stand mv_X7_stand tw_1083 ⟨Nat.le_of_ble_eq_true rfl, Nat.le_of_ble_eq_true rfl⟩ hb1 hb2 (T := TX7) (N := 12) rfl rfl (Nat.le_of_ble_eq_true rfl) dL_stand_5 ⟨Nat.le_trans (Nat.add_le_add_left hm1 _) hB.1, Nat.le_trans (Nat.add_le_add_left hs1 _) hB.2⟩) (fun E4 ce q9 S4 hf H locs cells slots hH hB hc1 hc2 hc3 => ?_) (fun v3 S1 hf H locs cells slots hH hB => ?_)
    · rcases hf with ⟨rfl, hf⟩
      · refine vx_catch X.1.2.2.2.1 [] ⟨0, 10, 13, 13⟩ [] htab (fun z hz => nomatch hz) (by decide) (by decide) (X.1.2.2.2.2 _ tw_952) (va_Nw.use (by decide +kernel) ((hGE _ _ _ X.2.2.2.2).1 _ (List.mem_of_getElem? (i := 3) rfl))) hc1 hc2 hc3 ?_
        refine lv_astore (lv' := [(4, .ref q9), (0, .ref a0), (1, .int a1), (2, .int a2), (3, .ref a3)]) hx hb dL_stand_13 hl (by decide) rfl (fun ls hl => ?_)
        refine lv_iconst (v := 1) hx hb dL_stand_15 (by decide) ?_
        exact vx_ret (q_retI X hH hr hlk hf (Nat.le_trans (Nat.le_add_right _ _) hB.1) (Nat.le_trans (Nat.le_add_right _ _) hB.2) dL_stand_16)
    · refine lv_i2l (v := v3.toInt64) hx hb dL_stand_8 rfl ?_
      refine q_last X hH hf dL_stand_9 (fun S5 hf H locs hH => ?_)
      refine lv_goto (tgt := 17) hx hb dL_stand_10 (by decide) ?_
      refine lv_iconst (v := 0) hx hb dL_stand_17 (by decide) ?_
      exact vx_ret (q_retI X hH hr hlk hf (Nat.le_trans (Nat.le_add_right _ _) hB.1) (Nat.le_trans (Nat.le_add_right _ _) hB.2) dL_stand_18)
  exact main s.heap [] ls 0 0 mc ms hf hH hl ⟨by omega, by omega⟩
-- L_part
def f_L_part (S : PS) (a0 : Nat) (a1 : Nat) (bc bs : Nat) (post : Int32 → PS → Prop) : Prop :=
  isO S a0 11 (
  ∃ mc2 ms2 : Nat, mc2 ≤ bc ∧ ms2 ≤ bs ∧ (f_X7_part S a0 mc2 ms2 (fun v3 S1 => (
    sL S1 a1 0 v3.toInt64 fun S5 => (
    post 0 S5))) (fun E4 S4 => (
  (E4 = "java/lang/UnsupportedOperationException" ∧ (
    post 1 S4))))))
abbrev rm_L_part (mc ms : Nat) : Room := { frames := 8, cells := mc, slots := ms, locals := 176 }
set_option maxHeartbeats 4000000 in
set_option maxRecDepth 100000 in
theorem c_L_part (l : Launch) (D : va_G) (cy : Nat → ClassId) (G : p_GT) (hG : p_ok G) (hst : l.stackTraces = false) (hGE : ∀ (A : Nat → Prop) (U : State) (H : Heap), G A U H → p_Ex A U H) (S : PS) (a0 : Nat) (a1 : Nat) (mc ms : Nat) (post : Int32 → PS → Prop) (sz : Nat) (hf : f_L_part S a0 a1 mc ms post) : p_Xi l D cy G S sz yL_part (Cond.codeWith yL_part cL_part 3 (some .int) [(0, 8, 11, 13)] :: wG) (rm_L_part mc ms) [.ref a0, .ref a1] mc ms post (fun _ _ => False) := by
  refine q_startH hG (Qc := fun A => va_Qi post (p_Post D cy A) A) (XC := fun A => p_XC D cy A (fun _ _ => False)) mw_L_part (Nat.le_of_ble_eq_true rfl) (own := RL) rfl ?_
  intro p e s m below meth c A X hr hlk hnm htab ls hl hH
  have hx := X.1.1
  have hb := X.1.2.1
  replace hl : lv_has ls 3 [(0, .ref a0), (1, .ref a1)] := hl
  have main : ∀ (H : Heap) (locs : List Loc) (ls : Array Slot) (cells slots bc bs : Nat), f_L_part S a0 a1 bc bs post → p_H D cy S A s H locs → lv_has ls 3 [(0, .ref a0), (1, .ref a1)] → cells + bc ≤ mc ∧ slots + bs ≤ ms → W p l e (rm_L_part mc ms) s m [.ref a0, .ref a1].toArray below meth c H locs cells slots (vx_MQ below (va_Qi post (p_Post D cy A) A) (p_XC D cy A (fun _ _ => False)) [.ref a0, .ref a1].toArray s mc ms A) (F0 m 0 ls []) := by
    intro H locs ls cells slots bc bs hf hH hl hB
    refine lv_aload_n hx hb dL_part_0 rfl (lv_at hl 1 rfl) ?_
    refine lv_iconst (v := 0) hx hb dL_part_1 (by decide) ?_
    refine lv_aload_n hx hb dL_part_2 rfl (lv_at hl 0 rfl) ?_
    obtain ⟨hb1, hb2, mc2, ms2, hm1, hs1, hf⟩ := hf
    refine q_callXi X hH hB hm1 hs1 (q_runVx [] [.int 0, .ref a1] X hH hl (c_X7_part l D cy G X.2.2.2.1 hst hGE S a0 mc2 ms2 _ _ _ hf) mf_X7_part mv_X7_part tw_1091 ⟨Nat.le_of_ble_eq_true rfl, Nat.le_of_ble_eq_true rfl⟩ hb1 hb2 (T := TX7) (N := 12) rfl rfl (Nat.le_of_ble_eq_true rfl) dL_part_3 ⟨Nat.le_trans (Nat.add_le_add_left hm1 _) hB.1, Nat.le_trans (Nat.add_le_add_left hs1 _) hB.2⟩) (fun E4 ce q9 S4 hf H locs cells slots hH hB hc1 hc2 hc3 => ?_) (fun v3 S1 hf H locs cells slots hH hB => ?_)
    · rcases hf with ⟨rfl, hf⟩
      · refine vx_catch X.1.2.2.2.1 [] ⟨0, 8, 11, 13⟩ [] htab (fun z hz => nomatch hz) (by decide) (by decide) (X.1.2.2.2.2 _ tw_952) (va_Nw.use (by decide +kernel) ((hGE _ _ _ X.2.2.2.2).1 _ (List.mem_of_getElem? (i := 3) rfl))) hc1 hc2 hc3 ?_
        refine lv_astore_n (lv' := [(2, .ref q9), (0, .ref a0), (1, .ref a1)]) hx hb dL_part_11 rfl hl (by decide) rfl (fun ls hl => ?_)
        refine lv_iconst (v := 1) hx hb dL_part_12 (by decide) ?_
        exact vx_ret (q_retI X hH hr hlk hf (Nat.le_trans (Nat.le_add_right _ _) hB.1) (Nat.le_trans (Nat.le_add_right _ _) hB.2) dL_part_13)
    · refine lv_i2l (v := v3.toInt64) hx hb dL_part_6 rfl ?_
      refine q_last X hH hf dL_part_7 (fun S5 hf H locs hH => ?_)
      refine lv_goto (tgt := 14) hx hb dL_part_8 (by decide) ?_
      refine lv_iconst (v := 0) hx hb dL_part_14 (by decide) ?_
      exact vx_ret (q_retI X hH hr hlk hf (Nat.le_trans (Nat.le_add_right _ _) hB.1) (Nat.le_trans (Nat.le_add_right _ _) hB.2) dL_part_15)
  exact main s.heap [] ls 0 0 mc ms hf hH hl ⟨by omega, by omega⟩
-- L_run
def f_L_run (adK : Nat → Nat) (S : PS) (a0 : Nat) (a1 : Nat) (bc bs : Nat) (post : Int32 → PS → Prop) : Prop :=
  isO S a0 11 (
  ∃ mc2 ms2 : Nat, mc2 ≤ bc ∧ ms2 ≤ bs ∧ (f_X7_run adK S a0 mc2 ms2 (fun v3 S1 => (
    sL S1 a1 0 v3.toInt64 fun S5 => (
    post 0 S5))) (fun E4 S4 => (
  (E4 = "java/lang/IllegalArgumentException" ∧ (
    post 1 S4)) ∨
  (E4 = "java/lang/UnsupportedOperationException" ∧ (
    post 2 S4))))))
abbrev rm_L_run (mc ms : Nat) : Room := { frames := 10, cells := mc, slots := ms, locals := 220 }
set_option maxHeartbeats 4000000 in
set_option maxRecDepth 100000 in
theorem c_L_run (l : Launch) (D : va_G) (cy : Nat → ClassId) (G : p_GT) (hG : p_ok G) (hGC : ∀ (A : Nat → Prop) (U : State) (H : Heap), G A U H → gC A U H) (hst : l.stackTraces = false) (hGE : ∀ (A : Nat → Prop) (U : State) (H : Heap), G A U H → p_Ex A U H) (hGF : ∀ (A : Nat → Prop) (U : State) (H : Heap), G A U H → gF A U H) (adK adV : Nat → Nat) (hGK : ∀ (A : Nat → Prop) (U : State) (H : Heap), G A U H → gK adK adV A U H) (hGN : ∀ (A : Nat → Prop) (U : State) (H : Heap), G A U H → gN A U H) (hGU : ∀ (A : Nat → Prop) (U : State) (H : Heap), G A U H → gU A U H) (S : PS) (a0 : Nat) (a1 : Nat) (mc ms : Nat) (post : Int32 → PS → Prop) (sz : Nat) (hf : f_L_run adK S a0 a1 mc ms post) : p_Xi l D cy G S sz yL_run (Cond.codeWith yL_run cL_run 3 (some .int) [(0, 8, 11, 44), (0, 8, 14, 13)] :: wG) (rm_L_run mc ms) [.ref a0, .ref a1] mc ms post (fun _ _ => False) := by
  refine q_startH hG (Qc := fun A => va_Qi post (p_Post D cy A) A) (XC := fun A => p_XC D cy A (fun _ _ => False)) mw_L_run (Nat.le_of_ble_eq_true rfl) (own := RL) rfl ?_
  intro p e s m below meth c A X hr hlk hnm htab ls hl hH
  have hx := X.1.1
  have hb := X.1.2.1
  replace hl : lv_has ls 3 [(0, .ref a0), (1, .ref a1)] := hl
  have main : ∀ (H : Heap) (locs : List Loc) (ls : Array Slot) (cells slots bc bs : Nat), f_L_run adK S a0 a1 bc bs post → p_H D cy S A s H locs → lv_has ls 3 [(0, .ref a0), (1, .ref a1)] → cells + bc ≤ mc ∧ slots + bs ≤ ms → W p l e (rm_L_run mc ms) s m [.ref a0, .ref a1].toArray below meth c H locs cells slots (vx_MQ below (va_Qi post (p_Post D cy A) A) (p_XC D cy A (fun _ _ => False)) [.ref a0, .ref a1].toArray s mc ms A) (F0 m 0 ls []) := by
    intro H locs ls cells slots bc bs hf hH hl hB
    refine lv_aload_n hx hb dL_run_0 rfl (lv_at hl 1 rfl) ?_
    refine lv_iconst (v := 0) hx hb dL_run_1 (by decide) ?_
    refine lv_aload_n hx hb dL_run_2 rfl (lv_at hl 0 rfl) ?_
    obtain ⟨hb1, hb2, mc2, ms2, hm1, hs1, hf⟩ := hf
    refine q_callXi X hH hB hm1 hs1 (q_runVx [] [.int 0, .ref a1] X hH hl (c_X7_run l D cy G X.2.2.2.1 hGC hst hGE hGF adK adV hGK hGU S a0 mc2 ms2 _ _ _ hf) mf_X7_run mv_X7_run tw_1383 ⟨Nat.le_of_ble_eq_true rfl, Nat.le_of_ble_eq_true rfl⟩ hb1 hb2 (T := TX7) (N := 12) rfl rfl (Nat.le_of_ble_eq_true rfl) dL_run_3 ⟨Nat.le_trans (Nat.add_le_add_left hm1 _) hB.1, Nat.le_trans (Nat.add_le_add_left hs1 _) hB.2⟩) (fun E4 ce q9 S4 hf H locs cells slots hH hB hc1 hc2 hc3 => ?_) (fun v3 S1 hf H locs cells slots hH hB => ?_)
    · rcases hf with ⟨rfl, hf⟩ | ⟨rfl, hf⟩
      · refine vx_catch X.1.2.2.2.1 [] ⟨0, 8, 11, 44⟩ [⟨0, 8, 14, 13⟩] htab (fun z hz => nomatch hz) (by decide) (by decide) (X.1.2.2.2.2 _ tw_1121) (va_Nw.use (by decide +kernel) ((hGE _ _ _ X.2.2.2.2).1 _ (List.mem_of_getElem? (i := 5) rfl))) hc1 hc2 hc3 ?_
        refine lv_astore_n (lv' := [(2, .ref q9), (0, .ref a0), (1, .ref a1)]) hx hb dL_run_11 rfl hl (by decide) rfl (fun ls hl => ?_)
        refine lv_iconst (v := 1) hx hb dL_run_12 (by decide) ?_
        exact vx_ret (q_retI X hH hr hlk hf (Nat.le_trans (Nat.le_add_right _ _) hB.1) (Nat.le_trans (Nat.le_add_right _ _) hB.2) dL_run_13)
      · refine vx_catch X.1.2.2.2.1 [⟨0, 8, 11, 44⟩] ⟨0, 8, 14, 13⟩ [] htab (fun z hz => by rcases List.mem_singleton.mp hz with rfl; exact Or.inr ⟨(by decide), "java/lang/IllegalArgumentException", X.1.2.2.2.2 _ tw_1121, hGN _ _ _ X.2.2.2.2 _ (List.mem_of_getElem? (i := 5) rfl)⟩) (by decide) (by decide) (X.1.2.2.2.2 _ tw_952) (va_Nw.use (by decide +kernel) ((hGE _ _ _ X.2.2.2.2).1 _ (List.mem_of_getElem? (i := 3) rfl))) hc1 hc2 hc3 ?_
        refine lv_astore_n (lv' := [(2, .ref q9), (0, .ref a0), (1, .ref a1)]) hx hb dL_run_14 rfl hl (by decide) rfl (fun ls hl => ?_)
        refine lv_iconst (v := 2) hx hb dL_run_15 (by decide) ?_
        exact vx_ret (q_retI X hH hr hlk hf (Nat.le_trans (Nat.le_add_right _ _) hB.1) (Nat.le_trans (Nat.le_add_right _ _) hB.2) dL_run_16)
    · refine lv_i2l (v := v3.toInt64) hx hb dL_run_6 rfl ?_
      refine q_last X hH hf dL_run_7 (fun S5 hf H locs hH => ?_)
      refine lv_goto (tgt := 17) hx hb dL_run_8 (by decide) ?_
      refine lv_iconst (v := 0) hx hb dL_run_17 (by decide) ?_
      exact vx_ret (q_retI X hH hr hlk hf (Nat.le_trans (Nat.le_add_right _ _) hB.1) (Nat.le_trans (Nat.le_add_right _ _) hB.2) dL_run_18)
  exact main s.heap [] ls 0 0 mc ms hf hH hl ⟨by omega, by omega⟩
