-- L_acts
def f_L_acts_J178 (L : Nat) (xs : Nat → Int32) (post : PS → Prop) (S : PS) (bc bs : Nat) (l0 : Nat) (l4 : Int32) (l6 : Int32) : Prop :=
  (¬ (2 : Int32) = 0) ∧ (
  ∃ mc2 ms2 : Nat, mc2 ≤ bc ∧ ms2 ≤ bs ∧ (f_L_stand S l0 l4 (l6 - l6 / 2 * 2) mc2 ms2 fun v3 S1 => (
  post S1)))
def f_L_acts (L : Nat) (xs : Nat → Int32) (S : PS) (a0 : Nat) (a2 : Int32) (bc bs : Nat) (post : PS → Prop) : Prop :=
  isO S a0 11 (
  ∃ mc2 ms2 : Nat, mc2 ≤ bc ∧ ms2 ≤ bs ∧ (f_X7_account S a0 0 mc2 ms2 (fun v3 S1 => (
  f_L_some L xs S1 (a2 + 1) (if 1 < v3 then v3 else 1) fun v5 S4 => (
  f_L_some L xs S4 (a2 + 2) (if 1 < v3 then v3 else 1) fun v7 S6 => (
  f_L_some L xs S6 (a2 + 3) 99 fun v9 S8 => (
  f_L_some L xs S8 a2 10 fun v11 S10 => (
  if v11 = 0 then
    if 7 ≤ v3 then
      ∃ mc15 ms15 : Nat, mc15 ≤ (bc - mc2) ∧ ms15 ≤ (bs - ms2) ∧ (f_L_leave S10 a0 v5 mc15 ms15 fun v16 S14 => (
      post S14))
    else
      ∃ mc18 ms18 : Nat, mc18 ≤ (bc - mc2) ∧ ms18 ≤ (bs - ms2) ∧ (f_L_household S10 a0 mc18 ms18 fun v19 S17 => (
      post S17))
  else
  if v11 = 1 then
    if v3 ≤ 3 then
      ∃ mc23 ms23 : Nat, mc23 ≤ (bc - mc2) ∧ ms23 ≤ (bs - ms2) ∧ (f_L_household S10 a0 mc23 ms23 fun v24 S22 => (
      post S22))
    else
      ∃ mc26 ms26 : Nat, mc26 ≤ (bc - mc2) ∧ ms26 ≤ (bs - ms2) ∧ (f_L_leave S10 a0 v5 mc26 ms26 fun v27 S25 => (
      post S25))
  else
  if v11 = 2 then
    if v3 ≤ 3 then
      post S10
    else
      ∃ mc31 ms31 : Nat, mc31 ≤ (bc - mc2) ∧ ms31 ≤ (bs - ms2) ∧ (f_L_marry S10 a0 v5 v7 mc31 ms31 fun v32 S30 => (
      post S30))
  else
  if v11 = 3 then
    ∃ mc35 ms35 : Nat, mc35 ≤ (bc - mc2) ∧ ms35 ≤ (bs - ms2) ∧ (f_L_loosen S10 a0 v5 v7 mc35 ms35 fun v36 S34 => (
    post S34))
  else
  if v11 = 4 then
    f_L_acts_J178 L xs post S10 (bc - mc2) (bs - ms2) a0 v5 v9
  else
  if v11 = 5 then
    f_L_acts_J178 L xs post S10 (bc - mc2) (bs - ms2) a0 v5 v9
  else
  if v11 = 6 then
    ∃ mc41 ms41 : Nat, mc41 ≤ (bc - mc2) ∧ ms41 ≤ (bs - ms2) ∧ (f_L_part S10 a0 mc41 ms41 fun v42 S40 => (
    post S40))
  else
    ∃ mc44 ms44 : Nat, mc44 ≤ (bc - mc2) ∧ ms44 ≤ (bs - ms2) ∧ (f_L_bond S10 a0 v5 v7 ((1 : Int32) + v9) mc44 ms44 fun v45 S43 => (
    post S43)))))))) (fun _ _ => False)))
abbrev rm_L_acts (mc ms : Nat) : Room := { frames := 9, cells := mc, slots := ms, locals := 203 }
set_option maxHeartbeats 4000000 in
set_option maxRecDepth 100000 in
theorem c_L_acts (l : Launch) (D : va_G) (cy : Nat → ClassId) (G : p_GT) (hG : p_ok G) (hst : l.stackTraces = false) (hGE : ∀ (A : Nat → Prop) (U : State) (H : Heap), G A U H → p_Ex A U H) (b L : Nat) (xs : Nat → Int32) (hGX : ∀ (A : Nat → Prop) (U : State) (H : Heap), G A U H → gX b L xs A U H) (S : PS) (a0 : Nat) (a2 : Int32) (mc ms : Nat) (post : PS → Prop) (sz : Nat) (hf : f_L_acts L xs S a0 a2 mc ms post) : p_Mv l D cy G S sz yL_acts (Cond.code yL_acts cL_acts 8 none :: wG) (rm_L_acts mc ms) [.ref a0, .ref b, .int a2] mc ms post := by
  refine q_start hG (Qc := fun A => va_Qv post (p_Post D cy A) A) mf_L_acts (Nat.le_of_ble_eq_true rfl) (own := RL) rfl ?_
  intro p e s m below meth c A X hr hlk hnm ls hl hH
  have hx := X.1.1
  have hb := X.1.2.1
  replace hl : lv_has ls 8 [(0, .ref a0), (1, .ref b), (2, .int a2)] := hl
  have main : ∀ (H : Heap) (locs : List Loc) (ls : Array Slot) (cells slots bc bs : Nat), f_L_acts L xs S a0 a2 bc bs post → p_H D cy S A s H locs → lv_has ls 8 [(0, .ref a0), (1, .ref b), (2, .int a2)] → cells + bc ≤ mc ∧ slots + bs ≤ ms → W p l e (rm_L_acts mc ms) s m [.ref a0, .ref b, .int a2].toArray below meth c H locs cells slots (MQ below (va_Qv post (p_Post D cy A) A) [.ref a0, .ref b, .int a2].toArray s mc ms A) (F0 m 0 ls []) := by
    intro H locs ls cells slots bc bs hf hH hl hB
    have hJ178 : ∀ (S : PS) (bc bs : Nat) (l0 : Nat) (l4 : Int32) (l6 : Int32), f_L_acts_J178 L xs post S bc bs l0 l4 l6 → ∀ (H : Heap) (locs : List Loc) (ls : Array Slot) (cells slots : Nat), p_H D cy S A s H locs → lv_has ls 8 [(0, .ref l0), (4, .int l4), (6, .int l6)] → cells + bc ≤ mc ∧ slots + bs ≤ ms → W p l e (rm_L_acts mc ms) s m [.ref a0, .ref b, .int a2].toArray below meth c H locs cells slots (MQ below (va_Qv post (p_Post D cy A) A) [.ref a0, .ref b, .int a2].toArray s mc ms A) (F0 m 178 ls []) := by
      intro S bc bs l0 l4 l6 hf H locs ls cells slots hH hl hB
      refine lv_aload_n hx hb dL_acts_178 rfl (lv_at hl 0 rfl) ?_
      refine lv_iload hx hb dL_acts_179 (lv_at hl 1 rfl) ?_
      refine lv_iload hx hb dL_acts_181 (lv_at hl 2 rfl) ?_
      refine lv_iconst (v := 2) hx hb dL_acts_183 (by decide) ?_
      refine lv_irem hx hb dL_acts_184 hf.1 ?_
      have hf := hf.2
      obtain ⟨mc2, ms2, hm1, hs1, hf⟩ := hf
      refine q_callXi X hH hB hm1 hs1 (q_runSx [.ref l0, .int l4, .int (l6 - l6 / 2 * 2)] [] X hH hl (c_L_stand l D cy G X.2.2.2.1 hst hGE S l0 l4 (l6 - l6 / 2 * 2) mc2 ms2 _ _ hf) mw_L_stand tw_1127 tw_1126 ⟨Nat.le_of_ble_eq_true rfl, Nat.le_of_ble_eq_true rfl⟩ rfl (Nat.le_of_ble_eq_true rfl) dL_acts_185 ⟨Nat.le_trans (Nat.add_le_add_left hm1 _) hB.1, Nat.le_trans (Nat.add_le_add_left hs1 _) hB.2⟩) (fun _ _ _ _ hf _ _ _ _ _ _ _ _ _ => hf.elim) (fun v3 S1 hf H locs cells slots hH hB => ?_)
      refine lv_istore (lv' := [(7, .int v3), (0, .ref l0), (4, .int l4), (6, .int l6)]) hx hb dL_acts_188 hl (by decide) rfl (fun ls hl => ?_)
      refine lv_goto (tgt := 216) hx hb dL_acts_190 (by decide) ?_
      exact q_retV X hH hr hlk hf (Nat.le_trans (Nat.le_add_right _ _) hB.1) (Nat.le_trans (Nat.le_add_right _ _) hB.2) dL_acts_216
    refine lv_aload_n hx hb dL_acts_0 rfl (lv_at hl 0 rfl) ?_
    refine lv_iconst (v := 0) hx hb dL_acts_1 (by decide) ?_
    obtain ⟨hb1, hb2, mc2, ms2, hm1, hs1, hf⟩ := hf
    refine q_callXi X hH hB hm1 hs1 (q_runVx [.int 0] [] X hH hl (c_X7_account l D cy G X.2.2.2.1 hst hGE S a0 0 mc2 ms2 _ _ _ hf) mf_X7_account mv_X7_account tw_835 ⟨Nat.le_of_ble_eq_true rfl, Nat.le_of_ble_eq_true rfl⟩ hb1 hb2 (T := TX7) (N := 12) rfl rfl (Nat.le_of_ble_eq_true rfl) dL_acts_2 ⟨Nat.le_trans (Nat.add_le_add_left hm1 _) hB.1, Nat.le_trans (Nat.add_le_add_left hs1 _) hB.2⟩) (fun _ _ _ _ hf _ _ _ _ _ _ _ _ _ => hf.elim) (fun v3 S1 hf H locs cells slots hH hB => ?_)
    refine lv_istore_n (lv' := [(3, .int v3), (0, .ref a0), (1, .ref b), (2, .int a2)]) hx hb dL_acts_5 rfl hl (by decide) rfl (fun ls hl => ?_)
    refine lv_aload_n hx hb dL_acts_6 rfl (lv_at hl 2 rfl) ?_
    refine lv_iload_n hx hb dL_acts_7 rfl (lv_at hl 3 rfl) ?_
    refine lv_iconst (v := 1) hx hb dL_acts_8 (by decide) ?_
    refine lv_iadd hx hb dL_acts_9 ?_
    refine lv_iconst (v := 1) hx hb dL_acts_10 (by decide) ?_
    refine lv_iload_n hx hb dL_acts_11 rfl (lv_at hl 0 rfl) ?_
    refine q_mmax X hl tw_1102 tw_499 tw_47 tw_500 ⟨Nat.le_of_ble_eq_true rfl, Nat.le_of_ble_eq_true rfl⟩ (Nat.le_of_ble_eq_true rfl) (Nat.le_trans (Nat.le_add_right _ _) hB.1) (Nat.le_trans (Nat.le_add_right _ _) hB.2) dL_acts_12 ?_
    refine q_backI0 X hH (q_runS [.ref b, .int (a2 + 1), .int ((if 1 < v3 then v3 else 1))] [] X hH hl (c_L_some l D cy G X.2.2.2.1 b L xs hGX S1 (a2 + 1) (if 1 < v3 then v3 else 1) _ _ hf) mf_L_some tw_976 tw_975 ⟨Nat.le_of_ble_eq_true rfl, Nat.le_of_ble_eq_true rfl⟩ rfl (Nat.le_of_ble_eq_true rfl) dL_acts_15 ⟨Nat.le_trans (Nat.le_add_right _ _) hB.1, Nat.le_trans (Nat.le_add_right _ _) hB.2⟩) (fun v5 S4 hf H locs hH => ?_)
    refine lv_istore (lv' := [(4, .int v5), (3, .int v3), (0, .ref a0), (1, .ref b), (2, .int a2)]) hx hb dL_acts_18 hl (by decide) rfl (fun ls hl => ?_)
    refine lv_aload_n hx hb dL_acts_20 rfl (lv_at hl 3 rfl) ?_
    refine lv_iload_n hx hb dL_acts_21 rfl (lv_at hl 4 rfl) ?_
    refine lv_iconst (v := 2) hx hb dL_acts_22 (by decide) ?_
    refine lv_iadd hx hb dL_acts_23 ?_
    refine lv_iconst (v := 1) hx hb dL_acts_24 (by decide) ?_
    refine lv_iload_n hx hb dL_acts_25 rfl (lv_at hl 1 rfl) ?_
    refine q_mmax X hl tw_1102 tw_499 tw_47 tw_500 ⟨Nat.le_of_ble_eq_true rfl, Nat.le_of_ble_eq_true rfl⟩ (Nat.le_of_ble_eq_true rfl) (Nat.le_trans (Nat.le_add_right _ _) hB.1) (Nat.le_trans (Nat.le_add_right _ _) hB.2) dL_acts_26 ?_
    refine q_backI0 X hH (q_runS [.ref b, .int (a2 + 2), .int ((if 1 < v3 then v3 else 1))] [] X hH hl (c_L_some l D cy G X.2.2.2.1 b L xs hGX S4 (a2 + 2) (if 1 < v3 then v3 else 1) _ _ hf) mf_L_some tw_976 tw_975 ⟨Nat.le_of_ble_eq_true rfl, Nat.le_of_ble_eq_true rfl⟩ rfl (Nat.le_of_ble_eq_true rfl) dL_acts_29 ⟨Nat.le_trans (Nat.le_add_right _ _) hB.1, Nat.le_trans (Nat.le_add_right _ _) hB.2⟩) (fun v7 S6 hf H locs hH => ?_)
    refine lv_istore (lv' := [(5, .int v7), (4, .int v5), (3, .int v3), (0, .ref a0), (1, .ref b), (2, .int a2)]) hx hb dL_acts_32 hl (by decide) rfl (fun ls hl => ?_)
    refine lv_aload_n hx hb dL_acts_34 rfl (lv_at hl 4 rfl) ?_
    refine lv_iload_n hx hb dL_acts_35 rfl (lv_at hl 5 rfl) ?_
    refine lv_iconst (v := 3) hx hb dL_acts_36 (by decide) ?_
    refine lv_iadd hx hb dL_acts_37 ?_
    refine lv_bipush (v := 99) hx hb dL_acts_38 (by decide) ?_
    refine q_backI0 X hH (q_runS [.ref b, .int (a2 + 3), .int 99] [] X hH hl (c_L_some l D cy G X.2.2.2.1 b L xs hGX S6 (a2 + 3) 99 _ _ hf) mf_L_some tw_976 tw_975 ⟨Nat.le_of_ble_eq_true rfl, Nat.le_of_ble_eq_true rfl⟩ rfl (Nat.le_of_ble_eq_true rfl) dL_acts_40 ⟨Nat.le_trans (Nat.le_add_right _ _) hB.1, Nat.le_trans (Nat.le_add_right _ _) hB.2⟩) (fun v9 S8 hf H locs hH => ?_)
    refine lv_istore (lv' := [(6, .int v9), (5, .int v7), (4, .int v5), (3, .int v3), (0, .ref a0), (1, .ref b), (2, .int a2)]) hx hb dL_acts_43 hl (by decide) rfl (fun ls hl => ?_)
    refine lv_aload_n hx hb dL_acts_45 rfl (lv_at hl 5 rfl) ?_
    refine lv_iload_n hx hb dL_acts_46 rfl (lv_at hl 6 rfl) ?_
    refine lv_bipush (v := 10) hx hb dL_acts_47 (by decide) ?_
    refine q_backI0 X hH (q_runS [.ref b, .int a2, .int 10] [] X hH hl (c_L_some l D cy G X.2.2.2.1 b L xs hGX S8 a2 10 _ _ hf) mf_L_some tw_976 tw_975 ⟨Nat.le_of_ble_eq_true rfl, Nat.le_of_ble_eq_true rfl⟩ rfl (Nat.le_of_ble_eq_true rfl) dL_acts_49 ⟨Nat.le_trans (Nat.le_add_right _ _) hB.1, Nat.le_trans (Nat.le_add_right _ _) hB.2⟩) (fun v11 S10 hf H locs hH => ?_)
    by_cases c12 : v11 = 0
    · have hf := (if_pos c12).mp hf
      refine lv_tableIn (off := 44) (tgt := 96) hx hb dL_acts_52 (by rw [c12]; decide) (by rw [c12]; decide) (by rw [c12]; rfl) (by decide) ?_
      refine lv_iload_n hx hb dL_acts_96 rfl (lv_at hl 3 rfl) ?_
      refine lv_bipush (v := 7) hx hb dL_acts_97 (by decide) ?_
      refine lv_icmp_ge (tgt := 109) hx hb dL_acts_99 (by decide) (fun c13 => ?_) (fun c13 => ?_)
      · have hf := (if_pos c13).mp hf
        refine lv_aload_n hx hb dL_acts_109 rfl (lv_at hl 4 rfl) ?_
        refine lv_iload hx hb dL_acts_110 (lv_at hl 2 rfl) ?_
        obtain ⟨mc15, ms15, hm1, hs1, hf⟩ := hf
        refine q_callXi X hH hB hm1 hs1 (q_runSx [.ref a0, .int v5] [] X hH hl (c_L_leave l D cy G X.2.2.2.1 hst hGE S10 a0 v5 mc15 ms15 _ _ hf) mw_L_leave tw_1104 tw_1103 ⟨Nat.le_of_ble_eq_true rfl, Nat.le_of_ble_eq_true rfl⟩ rfl (Nat.le_of_ble_eq_true rfl) dL_acts_112 ⟨Nat.le_trans (Nat.add_le_add_left hm1 _) hB.1, Nat.le_trans (Nat.add_le_add_left hs1 _) hB.2⟩) (fun _ _ _ _ hf _ _ _ _ _ _ _ _ _ => hf.elim) (fun v16 S14 hf H locs cells slots hH hB => ?_)
        refine lv_istore (lv' := [(7, .int v16), (6, .int v9), (5, .int v7), (4, .int v5), (3, .int v3), (0, .ref a0), (1, .ref b), (2, .int a2)]) hx hb dL_acts_115 hl (by decide) rfl (fun ls hl => ?_)
        refine lv_goto (tgt := 216) hx hb dL_acts_117 (by decide) ?_
        exact q_retV X hH hr hlk hf (Nat.le_trans (Nat.le_add_right _ _) hB.1) (Nat.le_trans (Nat.le_add_right _ _) hB.2) dL_acts_216
      · have hf := (if_neg c13).mp hf
        refine lv_aload_n hx hb dL_acts_102 rfl (lv_at hl 4 rfl) ?_
        obtain ⟨mc18, ms18, hm1, hs1, hf⟩ := hf
        refine q_callXi X hH hB hm1 hs1 (q_runSx [.ref a0] [] X hH hl (c_L_household l D cy G X.2.2.2.1 hst hGE S10 a0 mc18 ms18 _ _ hf) mw_L_household tw_982 tw_981 ⟨Nat.le_of_ble_eq_true rfl, Nat.le_of_ble_eq_true rfl⟩ rfl (Nat.le_of_ble_eq_true rfl) dL_acts_103 ⟨Nat.le_trans (Nat.add_le_add_left hm1 _) hB.1, Nat.le_trans (Nat.add_le_add_left hs1 _) hB.2⟩) (fun _ _ _ _ hf _ _ _ _ _ _ _ _ _ => hf.elim) (fun v19 S17 hf H locs cells slots hH hB => ?_)
        refine lv_goto (tgt := 115) hx hb dL_acts_106 (by decide) ?_
        refine lv_istore (lv' := [(7, .int v19), (6, .int v9), (5, .int v7), (4, .int v5), (3, .int v3), (0, .ref a0), (1, .ref b), (2, .int a2)]) hx hb dL_acts_115 hl (by decide) rfl (fun ls hl => ?_)
        refine lv_goto (tgt := 216) hx hb dL_acts_117 (by decide) ?_
        exact q_retV X hH hr hlk hf (Nat.le_trans (Nat.le_add_right _ _) hB.1) (Nat.le_trans (Nat.le_add_right _ _) hB.2) dL_acts_216
    · have hf := (if_neg c12).mp hf
      by_cases c20 : v11 = 1
      · have hf := (if_pos c20).mp hf
        refine lv_tableIn (off := 68) (tgt := 120) hx hb dL_acts_52 (by rw [c20]; decide) (by rw [c20]; decide) (by rw [c20]; rfl) (by decide) ?_
        refine lv_iload_n hx hb dL_acts_120 rfl (lv_at hl 3 rfl) ?_
        refine lv_iconst (v := 3) hx hb dL_acts_121 (by decide) ?_
        refine lv_icmp_le (tgt := 134) hx hb dL_acts_122 (by decide) (fun c21 => ?_) (fun c21 => ?_)
        · have hf := (if_pos c21).mp hf
          refine lv_aload_n hx hb dL_acts_134 rfl (lv_at hl 4 rfl) ?_
          obtain ⟨mc23, ms23, hm1, hs1, hf⟩ := hf
          refine q_callXi X hH hB hm1 hs1 (q_runSx [.ref a0] [] X hH hl (c_L_household l D cy G X.2.2.2.1 hst hGE S10 a0 mc23 ms23 _ _ hf) mw_L_household tw_982 tw_981 ⟨Nat.le_of_ble_eq_true rfl, Nat.le_of_ble_eq_true rfl⟩ rfl (Nat.le_of_ble_eq_true rfl) dL_acts_135 ⟨Nat.le_trans (Nat.add_le_add_left hm1 _) hB.1, Nat.le_trans (Nat.add_le_add_left hs1 _) hB.2⟩) (fun _ _ _ _ hf _ _ _ _ _ _ _ _ _ => hf.elim) (fun v24 S22 hf H locs cells slots hH hB => ?_)
          refine lv_istore (lv' := [(7, .int v24), (6, .int v9), (5, .int v7), (4, .int v5), (3, .int v3), (0, .ref a0), (1, .ref b), (2, .int a2)]) hx hb dL_acts_138 hl (by decide) rfl (fun ls hl => ?_)
          refine lv_goto (tgt := 216) hx hb dL_acts_140 (by decide) ?_
          exact q_retV X hH hr hlk hf (Nat.le_trans (Nat.le_add_right _ _) hB.1) (Nat.le_trans (Nat.le_add_right _ _) hB.2) dL_acts_216
        · have hf := (if_neg c21).mp hf
          refine lv_aload_n hx hb dL_acts_125 rfl (lv_at hl 4 rfl) ?_
          refine lv_iload hx hb dL_acts_126 (lv_at hl 2 rfl) ?_
          obtain ⟨mc26, ms26, hm1, hs1, hf⟩ := hf
          refine q_callXi X hH hB hm1 hs1 (q_runSx [.ref a0, .int v5] [] X hH hl (c_L_leave l D cy G X.2.2.2.1 hst hGE S10 a0 v5 mc26 ms26 _ _ hf) mw_L_leave tw_1104 tw_1103 ⟨Nat.le_of_ble_eq_true rfl, Nat.le_of_ble_eq_true rfl⟩ rfl (Nat.le_of_ble_eq_true rfl) dL_acts_128 ⟨Nat.le_trans (Nat.add_le_add_left hm1 _) hB.1, Nat.le_trans (Nat.add_le_add_left hs1 _) hB.2⟩) (fun _ _ _ _ hf _ _ _ _ _ _ _ _ _ => hf.elim) (fun v27 S25 hf H locs cells slots hH hB => ?_)
          refine lv_goto (tgt := 138) hx hb dL_acts_131 (by decide) ?_
          refine lv_istore (lv' := [(7, .int v27), (6, .int v9), (5, .int v7), (4, .int v5), (3, .int v3), (0, .ref a0), (1, .ref b), (2, .int a2)]) hx hb dL_acts_138 hl (by decide) rfl (fun ls hl => ?_)
          refine lv_goto (tgt := 216) hx hb dL_acts_140 (by decide) ?_
          exact q_retV X hH hr hlk hf (Nat.le_trans (Nat.le_add_right _ _) hB.1) (Nat.le_trans (Nat.le_add_right _ _) hB.2) dL_acts_216
      · have hf := (if_neg c20).mp hf
        by_cases c28 : v11 = 2
        · have hf := (if_pos c28).mp hf
          refine lv_tableIn (off := 91) (tgt := 143) hx hb dL_acts_52 (by rw [c28]; decide) (by rw [c28]; decide) (by rw [c28]; rfl) (by decide) ?_
          refine lv_iload_n hx hb dL_acts_143 rfl (lv_at hl 3 rfl) ?_
          refine lv_iconst (v := 3) hx hb dL_acts_144 (by decide) ?_
          refine lv_icmp_le (tgt := 159) hx hb dL_acts_145 (by decide) (fun c29 => ?_) (fun c29 => ?_)
          · have hf := (if_pos c29).mp hf
            refine lv_iconst (v := 0) hx hb dL_acts_159 (by decide) ?_
            refine lv_istore (lv' := [(7, .int 0), (6, .int v9), (5, .int v7), (4, .int v5), (3, .int v3), (0, .ref a0), (1, .ref b), (2, .int a2)]) hx hb dL_acts_160 hl (by decide) rfl (fun ls hl => ?_)
            refine lv_goto (tgt := 216) hx hb dL_acts_162 (by decide) ?_
            exact q_retV X hH hr hlk hf (Nat.le_trans (Nat.le_add_right _ _) hB.1) (Nat.le_trans (Nat.le_add_right _ _) hB.2) dL_acts_216
          · have hf := (if_neg c29).mp hf
            refine lv_aload_n hx hb dL_acts_148 rfl (lv_at hl 4 rfl) ?_
            refine lv_iload hx hb dL_acts_149 (lv_at hl 2 rfl) ?_
            refine lv_iload hx hb dL_acts_151 (lv_at hl 1 rfl) ?_
            obtain ⟨mc31, ms31, hm1, hs1, hf⟩ := hf
            refine q_callXi X hH hB hm1 hs1 (q_runSx [.ref a0, .int v5, .int v7] [] X hH hl (c_L_marry l D cy G X.2.2.2.1 hst hGE S10 a0 v5 v7 mc31 ms31 _ _ hf) mw_L_marry tw_1111 tw_1110 ⟨Nat.le_of_ble_eq_true rfl, Nat.le_of_ble_eq_true rfl⟩ rfl (Nat.le_of_ble_eq_true rfl) dL_acts_153 ⟨Nat.le_trans (Nat.add_le_add_left hm1 _) hB.1, Nat.le_trans (Nat.add_le_add_left hs1 _) hB.2⟩) (fun _ _ _ _ hf _ _ _ _ _ _ _ _ _ => hf.elim) (fun v32 S30 hf H locs cells slots hH hB => ?_)
            refine lv_goto (tgt := 160) hx hb dL_acts_156 (by decide) ?_
            refine lv_istore (lv' := [(7, .int v32), (6, .int v9), (5, .int v7), (4, .int v5), (3, .int v3), (0, .ref a0), (1, .ref b), (2, .int a2)]) hx hb dL_acts_160 hl (by decide) rfl (fun ls hl => ?_)
            refine lv_goto (tgt := 216) hx hb dL_acts_162 (by decide) ?_
            exact q_retV X hH hr hlk hf (Nat.le_trans (Nat.le_add_right _ _) hB.1) (Nat.le_trans (Nat.le_add_right _ _) hB.2) dL_acts_216
        · have hf := (if_neg c28).mp hf
          by_cases c33 : v11 = 3
          · have hf := (if_pos c33).mp hf
            refine lv_tableIn (off := 113) (tgt := 165) hx hb dL_acts_52 (by rw [c33]; decide) (by rw [c33]; decide) (by rw [c33]; rfl) (by decide) ?_
            refine lv_aload_n hx hb dL_acts_165 rfl (lv_at hl 4 rfl) ?_
            refine lv_iload hx hb dL_acts_166 (lv_at hl 2 rfl) ?_
            refine lv_iload hx hb dL_acts_168 (lv_at hl 1 rfl) ?_
            obtain ⟨mc35, ms35, hm1, hs1, hf⟩ := hf
            refine q_callXi X hH hB hm1 hs1 (q_runSx [.ref a0, .int v5, .int v7] [] X hH hl (c_L_loosen l D cy G X.2.2.2.1 hst hGE S10 a0 v5 v7 mc35 ms35 _ _ hf) mw_L_loosen tw_1119 tw_1118 ⟨Nat.le_of_ble_eq_true rfl, Nat.le_of_ble_eq_true rfl⟩ rfl (Nat.le_of_ble_eq_true rfl) dL_acts_170 ⟨Nat.le_trans (Nat.add_le_add_left hm1 _) hB.1, Nat.le_trans (Nat.add_le_add_left hs1 _) hB.2⟩) (fun _ _ _ _ hf _ _ _ _ _ _ _ _ _ => hf.elim) (fun v36 S34 hf H locs cells slots hH hB => ?_)
            refine lv_istore (lv' := [(7, .int v36), (6, .int v9), (5, .int v7), (4, .int v5), (3, .int v3), (0, .ref a0), (1, .ref b), (2, .int a2)]) hx hb dL_acts_173 hl (by decide) rfl (fun ls hl => ?_)
            refine lv_goto (tgt := 216) hx hb dL_acts_175 (by decide) ?_
            exact q_retV X hH hr hlk hf (Nat.le_trans (Nat.le_add_right _ _) hB.1) (Nat.le_trans (Nat.le_add_right _ _) hB.2) dL_acts_216
          · have hf := (if_neg c33).mp hf
            by_cases c37 : v11 = 4
            · have hf := (if_pos c37).mp hf
              refine lv_tableIn (off := 126) (tgt := 178) hx hb dL_acts_52 (by rw [c37]; decide) (by rw [c37]; decide) (by rw [c37]; rfl) (by decide) ?_
              exact hJ178 S10 (bc - mc2) (bs - ms2) a0 v5 v9 hf H locs ls cells slots hH (lv_sub hl [4, 2, 0] rfl) hB
            · have hf := (if_neg c37).mp hf
              by_cases c38 : v11 = 5
              · have hf := (if_pos c38).mp hf
                refine lv_tableIn (off := 126) (tgt := 178) hx hb dL_acts_52 (by rw [c38]; decide) (by rw [c38]; decide) (by rw [c38]; rfl) (by decide) ?_
                exact hJ178 S10 (bc - mc2) (bs - ms2) a0 v5 v9 hf H locs ls cells slots hH (lv_sub hl [4, 2, 0] rfl) hB
              · have hf := (if_neg c38).mp hf
                by_cases c39 : v11 = 6
                · have hf := (if_pos c39).mp hf
                  refine lv_tableIn (off := 141) (tgt := 193) hx hb dL_acts_52 (by rw [c39]; decide) (by rw [c39]; decide) (by rw [c39]; rfl) (by decide) ?_
                  refine lv_aload_n hx hb dL_acts_193 rfl (lv_at hl 4 rfl) ?_
                  obtain ⟨mc41, ms41, hm1, hs1, hf⟩ := hf
                  refine q_callXi X hH hB hm1 hs1 (q_runSx [.ref a0] [] X hH hl (c_L_part l D cy G X.2.2.2.1 hst hGE S10 a0 mc41 ms41 _ _ hf) mw_L_part tw_1135 tw_1134 ⟨Nat.le_of_ble_eq_true rfl, Nat.le_of_ble_eq_true rfl⟩ rfl (Nat.le_of_ble_eq_true rfl) dL_acts_194 ⟨Nat.le_trans (Nat.add_le_add_left hm1 _) hB.1, Nat.le_trans (Nat.add_le_add_left hs1 _) hB.2⟩) (fun _ _ _ _ hf _ _ _ _ _ _ _ _ _ => hf.elim) (fun v42 S40 hf H locs cells slots hH hB => ?_)
                  refine lv_istore (lv' := [(7, .int v42), (6, .int v9), (5, .int v7), (4, .int v5), (3, .int v3), (0, .ref a0), (1, .ref b), (2, .int a2)]) hx hb dL_acts_197 hl (by decide) rfl (fun ls hl => ?_)
                  refine lv_goto (tgt := 216) hx hb dL_acts_199 (by decide) ?_
                  exact q_retV X hH hr hlk hf (Nat.le_trans (Nat.le_add_right _ _) hB.1) (Nat.le_trans (Nat.le_add_right _ _) hB.2) dL_acts_216
                · have hf := (if_neg c39).mp hf
                  refine lv_tableOut (tgt := 202) hx hb dL_acts_52 (by have z0 := lv_neT c12 (a := 0) rfl; have z1 := lv_neT c20 (a := 1) rfl; have z2 := lv_neT c28 (a := 2) rfl; have z3 := lv_neT c33 (a := 3) rfl; have z4 := lv_neT c37 (a := 4) rfl; have z5 := lv_neT c38 (a := 5) rfl; have z6 := lv_neT c39 (a := 6) rfl; omega) (by decide) ?_
                  refine lv_aload_n hx hb dL_acts_202 rfl (lv_at hl 4 rfl) ?_
                  refine lv_iload hx hb dL_acts_203 (lv_at hl 2 rfl) ?_
                  refine lv_iload hx hb dL_acts_205 (lv_at hl 1 rfl) ?_
                  refine lv_iconst (v := 1) hx hb dL_acts_207 (by decide) ?_
                  refine lv_iload hx hb dL_acts_208 (lv_at hl 0 rfl) ?_
                  refine lv_iadd hx hb dL_acts_210 ?_
                  obtain ⟨mc44, ms44, hm1, hs1, hf⟩ := hf
                  refine q_callXi X hH hB hm1 hs1 (q_runSx [.ref a0, .int v5, .int v7, .int ((1 : Int32) + v9)] [] X hH hl (c_L_bond l D cy G X.2.2.2.1 hst hGE S10 a0 v5 v7 ((1 : Int32) + v9) mc44 ms44 _ _ hf) mw_L_bond tw_1092 tw_1091 ⟨Nat.le_of_ble_eq_true rfl, Nat.le_of_ble_eq_true rfl⟩ rfl (Nat.le_of_ble_eq_true rfl) dL_acts_211 ⟨Nat.le_trans (Nat.add_le_add_left hm1 _) hB.1, Nat.le_trans (Nat.add_le_add_left hs1 _) hB.2⟩) (fun _ _ _ _ hf _ _ _ _ _ _ _ _ _ => hf.elim) (fun v45 S43 hf H locs cells slots hH hB => ?_)
                  refine lv_istore (lv' := [(7, .int v45), (6, .int v9), (5, .int v7), (4, .int v5), (3, .int v3), (0, .ref a0), (1, .ref b), (2, .int a2)]) hx hb dL_acts_214 hl (by decide) rfl (fun ls hl => ?_)
                  exact q_retV X hH hr hlk hf (Nat.le_trans (Nat.le_add_right _ _) hB.1) (Nat.le_trans (Nat.le_add_right _ _) hB.2) dL_acts_216
  exact main s.heap [] ls 0 0 mc ms hf hH hl ⟨by omega, by omega⟩
-- L_build
def f_L_build_L99 (L : Nat) (xs : Nat → Int32) (post : PS → Prop) : Nat → PS → Nat → Nat → Nat → Int32 → Prop
  | 0, _, _, _, _, _ => False
  | n + 1, S, bc, bs, l0, l4 =>
  if 5 ≤ l4 then
    post S
  else
    ∃ mc3 ms3 : Nat, mc3 ≤ bc ∧ ms3 ≤ bs ∧ (f_L_acts L xs S l0 ((30 : Int32) + ((4 : Int32) * l4)) mc3 ms3 fun S2 => (
    (f_L_build_L99 L xs post n) S2 (bc - mc3) (bs - ms3) l0 (l4 + 1)))
def f_L_build_J96 (L : Nat) (xs : Nat → Int32) (post : PS → Prop) (S : PS) (bc bs : Nat) (l0 : Nat) : Prop :=
  f_L_build_L99 L xs post 4096 S bc bs l0 0
def f_L_build_J82 (L : Nat) (xs : Nat → Int32) (post : PS → Prop) (g32 : PS → Nat → Nat → Nat → Int32 → Int32 → Prop) (S : PS) (bc bs : Nat) (l0 : Nat) (l3 : Int32) (l4 : Int32) (t0 : Int32) (t1 : Int32) (t3 : Int32) (t4 : Int32) (t5 : Int32) (t6 : Nat) : Prop :=
  f_L_some L xs S t1 t0 fun v2 S1 => (
  ∃ mc4 ms4 : Nat, mc4 ≤ bc ∧ ms4 ≤ bs ∧ (f_L_bond S1 t6 t5 t4 (t3 + v2) mc4 ms4 fun v5 S3 => (
  g32 S3 (bc - mc4) (bs - ms4) l0 l3 (l4 + 1))))
def f_L_build_L32 (L : Nat) (xs : Nat → Int32) (post : PS → Prop) : Nat → PS → Nat → Nat → Nat → Int32 → Int32 → Prop
  | 0, _, _, _, _, _, _ => False
  | n + 1, S, bc, bs, l0, l3, l4 =>
  if 8 ≤ l4 then
    f_L_build_J96 L xs post S bc bs l0
  else
    f_L_some L xs S ((1 : Int32) + l4) l3 fun v3 S2 => (
    f_L_some L xs S2 ((10 : Int32) + l4) l3 fun v5 S4 => (
    f_L_some L xs S4 19 2 fun v7 S6 => (
    if v7 = 0 then
      f_L_build_J82 L xs post (f_L_build_L32 L xs post n) S6 bc bs l0 l3 l4 4 ((20 : Int32) + l4) 1 v5 v3 l0
    else
      f_L_build_J82 L xs post (f_L_build_L32 L xs post n) S6 bc bs l0 l3 l4 99 ((20 : Int32) + l4) 1 v5 v3 l0)))
def f_L_build_J29 (L : Nat) (xs : Nat → Int32) (post : PS → Prop) (S : PS) (bc bs : Nat) (l0 : Nat) (l3 : Int32) : Prop :=
  f_L_build_L32 L xs post 4096 S bc bs l0 l3 0
def f_L_build_L12 (L : Nat) (xs : Nat → Int32) (post : PS → Prop) : Nat → PS → Nat → Nat → Nat → Int32 → Int32 → Prop
  | 0, _, _, _, _, _, _ => False
  | n + 1, S, bc, bs, l0, l3, l4 =>
  if l3 ≤ l4 then
    f_L_build_J29 L xs post S bc bs l0 l3
  else
    ∃ mc3 ms3 : Nat, mc3 ≤ bc ∧ ms3 ≤ bs ∧ (f_L_household S l0 mc3 ms3 fun v4 S2 => (
    (f_L_build_L12 L xs post n) S2 (bc - mc3) (bs - ms3) l0 l3 (l4 + 1)))
def f_L_build (L : Nat) (xs : Nat → Int32) (S : PS) (a0 : Nat) (bc bs : Nat) (post : PS → Prop) : Prop :=
  f_L_some L xs S 0 5 fun v2 S1 => (
  f_L_build_L12 L xs post 4096 S1 bc bs a0 ((2 : Int32) + v2) 0)
abbrev rm_L_build (mc ms : Nat) : Room := { frames := 10, cells := mc, slots := ms, locals := 230 }
set_option maxHeartbeats 4000000 in
set_option maxRecDepth 100000 in
theorem c_L_build (l : Launch) (D : va_G) (cy : Nat → ClassId) (G : p_GT) (hG : p_ok G) (hst : l.stackTraces = false) (hGE : ∀ (A : Nat → Prop) (U : State) (H : Heap), G A U H → p_Ex A U H) (b L : Nat) (xs : Nat → Int32) (hGX : ∀ (A : Nat → Prop) (U : State) (H : Heap), G A U H → gX b L xs A U H) (S : PS) (a0 : Nat) (mc ms : Nat) (post : PS → Prop) (sz : Nat) (hf : f_L_build L xs S a0 mc ms post) : p_Mv l D cy G S sz yL_build (Cond.code yL_build cL_build 5 none :: wG) (rm_L_build mc ms) [.ref a0, .ref b] mc ms post := by
  refine q_start hG (Qc := fun A => va_Qv post (p_Post D cy A) A) mf_L_build (Nat.le_of_ble_eq_true rfl) (own := RL) rfl ?_
  intro p e s m below meth c A X hr hlk hnm ls hl hH
  have hx := X.1.1
  have hb := X.1.2.1
  replace hl : lv_has ls 5 [(0, .ref a0), (1, .ref b)] := hl
  have main : ∀ (H : Heap) (locs : List Loc) (ls : Array Slot) (cells slots bc bs : Nat), f_L_build L xs S a0 bc bs post → p_H D cy S A s H locs → lv_has ls 5 [(0, .ref a0), (1, .ref b)] → cells + bc ≤ mc ∧ slots + bs ≤ ms → W p l e (rm_L_build mc ms) s m [.ref a0, .ref b].toArray below meth c H locs cells slots (MQ below (va_Qv post (p_Post D cy A) A) [.ref a0, .ref b].toArray s mc ms A) (F0 m 0 ls []) := by
    intro H locs ls cells slots bc bs hf hH hl hB
    have hL12 : ∀ (n12 : Nat) (S : PS) (bc bs : Nat) (l0 : Nat) (l3 : Int32) (l4 : Int32), f_L_build_L12 L xs post n12 S bc bs l0 l3 l4 → ∀ (H : Heap) (locs : List Loc) (ls : Array Slot) (cells slots : Nat), p_H D cy S A s H locs → lv_has ls 5 [(0, .ref l0), (1, .ref b), (3, .int l3), (4, .int l4)] → cells + bc ≤ mc ∧ slots + bs ≤ ms → W p l e (rm_L_build mc ms) s m [.ref a0, .ref b].toArray below meth c H locs cells slots (MQ below (va_Qv post (p_Post D cy A) A) [.ref a0, .ref b].toArray s mc ms A) (F0 m 12 ls []) := by
      intro n12
      induction n12 with
      | zero => intro S bc bs l0 l3 l4 hf; exact hf.elim
      | succ n12 ih12 =>
        intro S bc bs l0 l3 l4 hf H locs ls cells slots hH hl hB
        have hJ29 : ∀ (S : PS) (bc bs : Nat) (l0 : Nat) (l3 : Int32), f_L_build_J29 L xs post S bc bs l0 l3 → ∀ (H : Heap) (locs : List Loc) (ls : Array Slot) (cells slots : Nat), p_H D cy S A s H locs → lv_has ls 5 [(0, .ref l0), (1, .ref b), (3, .int l3)] → cells + bc ≤ mc ∧ slots + bs ≤ ms → W p l e (rm_L_build mc ms) s m [.ref a0, .ref b].toArray below meth c H locs cells slots (MQ below (va_Qv post (p_Post D cy A) A) [.ref a0, .ref b].toArray s mc ms A) (F0 m 29 ls []) := by
          intro S bc bs l0 l3 hf H locs ls cells slots hH hl hB
          have hL32 : ∀ (n32 : Nat) (S : PS) (bc bs : Nat) (l0 : Nat) (l3 : Int32) (l4 : Int32), f_L_build_L32 L xs post n32 S bc bs l0 l3 l4 → ∀ (H : Heap) (locs : List Loc) (ls : Array Slot) (cells slots : Nat), p_H D cy S A s H locs → lv_has ls 5 [(0, .ref l0), (1, .ref b), (3, .int l3), (4, .int l4)] → cells + bc ≤ mc ∧ slots + bs ≤ ms → W p l e (rm_L_build mc ms) s m [.ref a0, .ref b].toArray below meth c H locs cells slots (MQ below (va_Qv post (p_Post D cy A) A) [.ref a0, .ref b].toArray s mc ms A) (F0 m 32 ls []) := by
            intro n32
            induction n32 with
            | zero => intro S bc bs l0 l3 l4 hf; exact hf.elim
            | succ n32 ih32 =>
              intro S bc bs l0 l3 l4 hf H locs ls cells slots hH hl hB
              have hJ96 : ∀ (S : PS) (bc bs : Nat) (l0 : Nat), f_L_build_J96 L xs post S bc bs l0 → ∀ (H : Heap) (locs : List Loc) (ls : Array Slot) (cells slots : Nat), p_H D cy S A s H locs → lv_has ls 5 [(0, .ref l0), (1, .ref b)] → cells + bc ≤ mc ∧ slots + bs ≤ ms → W p l e (rm_L_build mc ms) s m [.ref a0, .ref b].toArray below meth c H locs cells slots (MQ below (va_Qv post (p_Post D cy A) A) [.ref a0, .ref b].toArray s mc ms A) (F0 m 96 ls []) := by
                intro S bc bs l0 hf H locs ls cells slots hH hl hB
                have hL99 : ∀ (n99 : Nat) (S : PS) (bc bs : Nat) (l0 : Nat) (l4 : Int32), f_L_build_L99 L xs post n99 S bc bs l0 l4 → ∀ (H : Heap) (locs : List Loc) (ls : Array Slot) (cells slots : Nat), p_H D cy S A s H locs → lv_has ls 5 [(0, .ref l0), (1, .ref b), (4, .int l4)] → cells + bc ≤ mc ∧ slots + bs ≤ ms → W p l e (rm_L_build mc ms) s m [.ref a0, .ref b].toArray below meth c H locs cells slots (MQ below (va_Qv post (p_Post D cy A) A) [.ref a0, .ref b].toArray s mc ms A) (F0 m 99 ls []) := by
                  intro n99
                  induction n99 with
                  | zero => intro S bc bs l0 l4 hf; exact hf.elim
                  | succ n99 ih99 =>
                    intro S bc bs l0 l4 hf H locs ls cells slots hH hl hB
                    refine lv_iload hx hb dL_build_99 (lv_at hl 2 rfl) ?_
                    refine lv_iconst (v := 5) hx hb dL_build_101 (by decide) ?_
                    refine lv_icmp_ge (tgt := 123) hx hb dL_build_102 (by decide) (fun c1 => ?_) (fun c1 => ?_)
                    · have hf := (if_pos c1).mp hf
                      exact q_retV X hH hr hlk hf (Nat.le_trans (Nat.le_add_right _ _) hB.1) (Nat.le_trans (Nat.le_add_right _ _) hB.2) dL_build_123
                    · have hf := (if_neg c1).mp hf
                      refine lv_aload_n hx hb dL_build_105 rfl (lv_at hl 0 rfl) ?_
                      refine lv_aload_n hx hb dL_build_106 rfl (lv_at hl 1 rfl) ?_
                      refine lv_bipush (v := 30) hx hb dL_build_107 (by decide) ?_
                      refine lv_iconst (v := 4) hx hb dL_build_109 (by decide) ?_
                      refine lv_iload hx hb dL_build_110 (lv_at hl 2 rfl) ?_
                      refine lv_imul hx hb dL_build_112 ?_
                      refine lv_iadd hx hb dL_build_113 ?_
                      obtain ⟨mc3, ms3, hm1, hs1, hf⟩ := hf
                      refine q_backVB X hH hB hm1 hs1 (q_runS [.ref l0, .ref b, .int ((30 : Int32) + ((4 : Int32) * l4))] [] X hH hl (c_L_acts l D cy G X.2.2.2.1 hst hGE b L xs hGX S l0 ((30 : Int32) + ((4 : Int32) * l4)) mc3 ms3 _ _ hf) mf_L_acts tw_1100 tw_1099 ⟨Nat.le_of_ble_eq_true rfl, Nat.le_of_ble_eq_true rfl⟩ rfl (Nat.le_of_ble_eq_true rfl) dL_build_114 ⟨Nat.le_trans (Nat.add_le_add_left hm1 _) hB.1, Nat.le_trans (Nat.add_le_add_left hs1 _) hB.2⟩) (fun S2 hf H locs cells slots hH hB => ?_)
                      refine lv_iinc (v := l4 + 1) (lv' := [(4, .int (l4 + 1)), (0, .ref l0), (1, .ref b)]) hx hb dL_build_117 hl (k := 2) rfl rfl (by decide) rfl (fun ls hl => ?_)
                      refine lv_goto (tgt := 99) hx hb dL_build_120 (by decide) ?_
                      exact ih99 S2 (bc - mc3) (bs - ms3) l0 (l4 + 1) hf H locs ls cells slots hH (lv_sub hl [1, 2, 0] rfl) hB
                refine lv_iconst (v := 0) hx hb dL_build_96 (by decide) ?_
                refine lv_istore (lv' := [(4, .int 0), (0, .ref l0), (1, .ref b)]) hx hb dL_build_97 hl (by decide) rfl (fun ls hl => ?_)
                exact hL99 4096 S bc bs l0 0 hf H locs ls cells slots hH (lv_sub hl [1, 2, 0] rfl) hB
              have hJ82 : ∀ (S : PS) (bc bs : Nat) (l0 : Nat) (l3 : Int32) (l4 : Int32) (t0 : Int32) (t1 : Int32) (t3 : Int32) (t4 : Int32) (t5 : Int32) (t6 : Nat), f_L_build_J82 L xs post (f_L_build_L32 L xs post n32) S bc bs l0 l3 l4 t0 t1 t3 t4 t5 t6 → ∀ (H : Heap) (locs : List Loc) (ls : Array Slot) (cells slots : Nat), p_H D cy S A s H locs → lv_has ls 5 [(0, .ref l0), (1, .ref b), (3, .int l3), (4, .int l4)] → cells + bc ≤ mc ∧ slots + bs ≤ ms → W p l e (rm_L_build mc ms) s m [.ref a0, .ref b].toArray below meth c H locs cells slots (MQ below (va_Qv post (p_Post D cy A) A) [.ref a0, .ref b].toArray s mc ms A) (F0 m 82 ls [.int t0, .int t1, .ref b, .int t3, .int t4, .int t5, .ref t6]) := by
                intro S bc bs l0 l3 l4 t0 t1 t3 t4 t5 t6 hf H locs ls cells slots hH hl hB
                refine q_backI0 X hH (q_runS [.ref b, .int t1, .int t0] [.int t3, .int t4, .int t5, .ref t6] X hH hl (c_L_some l D cy G X.2.2.2.1 b L xs hGX S t1 t0 _ _ hf) mf_L_some tw_976 tw_975 ⟨Nat.le_of_ble_eq_true rfl, Nat.le_of_ble_eq_true rfl⟩ rfl (Nat.le_of_ble_eq_true rfl) dL_build_82 ⟨Nat.le_trans (Nat.le_add_right _ _) hB.1, Nat.le_trans (Nat.le_add_right _ _) hB.2⟩) (fun v2 S1 hf H locs hH => ?_)
                refine lv_iadd hx hb dL_build_85 ?_
                obtain ⟨mc4, ms4, hm1, hs1, hf⟩ := hf
                refine q_callXi X hH hB hm1 hs1 (q_runSx [.ref t6, .int t5, .int t4, .int (t3 + v2)] [] X hH hl (c_L_bond l D cy G X.2.2.2.1 hst hGE S1 t6 t5 t4 (t3 + v2) mc4 ms4 _ _ hf) mw_L_bond tw_1092 tw_1091 ⟨Nat.le_of_ble_eq_true rfl, Nat.le_of_ble_eq_true rfl⟩ rfl (Nat.le_of_ble_eq_true rfl) dL_build_86 ⟨Nat.le_trans (Nat.add_le_add_left hm1 _) hB.1, Nat.le_trans (Nat.add_le_add_left hs1 _) hB.2⟩) (fun _ _ _ _ hf _ _ _ _ _ _ _ _ _ => hf.elim) (fun v5 S3 hf H locs cells slots hH hB => ?_)
                refine lv_istore_n (lv' := [(2, .int v5), (0, .ref l0), (1, .ref b), (3, .int l3), (4, .int l4)]) hx hb dL_build_89 rfl hl (by decide) rfl (fun ls hl => ?_)
                refine lv_iinc (v := l4 + 1) (lv' := [(4, .int (l4 + 1)), (2, .int v5), (0, .ref l0), (1, .ref b), (3, .int l3)]) hx hb dL_build_90 hl (k := 4) rfl rfl (by decide) rfl (fun ls hl => ?_)
                refine lv_goto (tgt := 32) hx hb dL_build_93 (by decide) ?_
                exact ih32 S3 (bc - mc4) (bs - ms4) l0 l3 (l4 + 1) hf H locs ls cells slots hH (lv_sub hl [2, 3, 4, 0] rfl) hB
              refine lv_iload hx hb dL_build_32 (lv_at hl 3 rfl) ?_
              refine lv_bipush (v := 8) hx hb dL_build_34 (by decide) ?_
              refine lv_icmp_ge (tgt := 96) hx hb dL_build_36 (by decide) (fun c1 => ?_) (fun c1 => ?_)
              · have hf := (if_pos c1).mp hf
                exact hJ96 S bc bs l0 hf H locs ls cells slots hH (lv_sub hl [0, 1] rfl) hB
              · have hf := (if_neg c1).mp hf
                refine lv_aload_n hx hb dL_build_39 rfl (lv_at hl 0 rfl) ?_
                refine lv_aload_n hx hb dL_build_40 rfl (lv_at hl 1 rfl) ?_
                refine lv_iconst (v := 1) hx hb dL_build_41 (by decide) ?_
                refine lv_iload hx hb dL_build_42 (lv_at hl 3 rfl) ?_
                refine lv_iadd hx hb dL_build_44 ?_
                refine lv_iload_n hx hb dL_build_45 rfl (lv_at hl 2 rfl) ?_
                refine q_backI0 X hH (q_runS [.ref b, .int ((1 : Int32) + l4), .int l3] [.ref l0] X hH hl (c_L_some l D cy G X.2.2.2.1 b L xs hGX S ((1 : Int32) + l4) l3 _ _ hf) mf_L_some tw_976 tw_975 ⟨Nat.le_of_ble_eq_true rfl, Nat.le_of_ble_eq_true rfl⟩ rfl (Nat.le_of_ble_eq_true rfl) dL_build_46 ⟨Nat.le_trans (Nat.le_add_right _ _) hB.1, Nat.le_trans (Nat.le_add_right _ _) hB.2⟩) (fun v3 S2 hf H locs hH => ?_)
                refine lv_aload_n hx hb dL_build_49 rfl (lv_at hl 1 rfl) ?_
                refine lv_bipush (v := 10) hx hb dL_build_50 (by decide) ?_
                refine lv_iload hx hb dL_build_52 (lv_at hl 3 rfl) ?_
                refine lv_iadd hx hb dL_build_54 ?_
                refine lv_iload_n hx hb dL_build_55 rfl (lv_at hl 2 rfl) ?_
                refine q_backI0 X hH (q_runS [.ref b, .int ((10 : Int32) + l4), .int l3] [.int v3, .ref l0] X hH hl (c_L_some l D cy G X.2.2.2.1 b L xs hGX S2 ((10 : Int32) + l4) l3 _ _ hf) mf_L_some tw_976 tw_975 ⟨Nat.le_of_ble_eq_true rfl, Nat.le_of_ble_eq_true rfl⟩ rfl (Nat.le_of_ble_eq_true rfl) dL_build_56 ⟨Nat.le_trans (Nat.le_add_right _ _) hB.1, Nat.le_trans (Nat.le_add_right _ _) hB.2⟩) (fun v5 S4 hf H locs hH => ?_)
                refine lv_iconst (v := 1) hx hb dL_build_59 (by decide) ?_
                refine lv_aload_n hx hb dL_build_60 rfl (lv_at hl 1 rfl) ?_
                refine lv_bipush (v := 20) hx hb dL_build_61 (by decide) ?_
                refine lv_iload hx hb dL_build_63 (lv_at hl 3 rfl) ?_
                refine lv_iadd hx hb dL_build_65 ?_
                refine lv_aload_n hx hb dL_build_66 rfl (lv_at hl 1 rfl) ?_
                refine lv_bipush (v := 19) hx hb dL_build_67 (by decide) ?_
                refine lv_iconst (v := 2) hx hb dL_build_69 (by decide) ?_
                refine q_backI0 X hH (q_runS [.ref b, .int 19, .int 2] [.int ((20 : Int32) + l4), .ref b, .int 1, .int v5, .int v3, .ref l0] X hH hl (c_L_some l D cy G X.2.2.2.1 b L xs hGX S4 19 2 _ _ hf) mf_L_some tw_976 tw_975 ⟨Nat.le_of_ble_eq_true rfl, Nat.le_of_ble_eq_true rfl⟩ rfl (Nat.le_of_ble_eq_true rfl) dL_build_70 ⟨Nat.le_trans (Nat.le_add_right _ _) hB.1, Nat.le_trans (Nat.le_add_right _ _) hB.2⟩) (fun v7 S6 hf H locs hH => ?_)
                refine lv_if_ne (tgt := 80) hx hb dL_build_73 (by decide) (fun c8 => ?_) (fun c8 => ?_)
                · have hf := (if_neg c8).mp hf
                  refine lv_bipush (v := 99) hx hb dL_build_80 (by decide) ?_
                  exact hJ82 S6 bc bs l0 l3 l4 99 ((20 : Int32) + l4) 1 v5 v3 l0 hf H locs ls cells slots hH hl hB
                · have hf := (if_pos c8).mp hf
                  refine lv_iconst (v := 4) hx hb dL_build_76 (by decide) ?_
                  refine lv_goto (tgt := 82) hx hb dL_build_77 (by decide) ?_
                  exact hJ82 S6 bc bs l0 l3 l4 4 ((20 : Int32) + l4) 1 v5 v3 l0 hf H locs ls cells slots hH hl hB
          refine lv_iconst (v := 0) hx hb dL_build_29 (by decide) ?_
          refine lv_istore (lv' := [(4, .int 0), (0, .ref l0), (1, .ref b), (3, .int l3)]) hx hb dL_build_30 hl (by decide) rfl (fun ls hl => ?_)
          exact hL32 4096 S bc bs l0 l3 0 hf H locs ls cells slots hH (lv_sub hl [1, 2, 3, 0] rfl) hB
        refine lv_iload hx hb dL_build_12 (lv_at hl 3 rfl) ?_
        refine lv_iload_n hx hb dL_build_14 rfl (lv_at hl 2 rfl) ?_
        refine lv_icmp_ge (tgt := 29) hx hb dL_build_15 (by decide) (fun c1 => ?_) (fun c1 => ?_)
        · have hf := (if_pos c1).mp hf
          exact hJ29 S bc bs l0 l3 hf H locs ls cells slots hH (lv_sub hl [0, 1, 2] rfl) hB
        · have hf := (if_neg c1).mp hf
          refine lv_aload_n hx hb dL_build_18 rfl (lv_at hl 0 rfl) ?_
          obtain ⟨mc3, ms3, hm1, hs1, hf⟩ := hf
          refine q_callXi X hH hB hm1 hs1 (q_runSx [.ref l0] [] X hH hl (c_L_household l D cy G X.2.2.2.1 hst hGE S l0 mc3 ms3 _ _ hf) mw_L_household tw_982 tw_981 ⟨Nat.le_of_ble_eq_true rfl, Nat.le_of_ble_eq_true rfl⟩ rfl (Nat.le_of_ble_eq_true rfl) dL_build_19 ⟨Nat.le_trans (Nat.add_le_add_left hm1 _) hB.1, Nat.le_trans (Nat.add_le_add_left hs1 _) hB.2⟩) (fun _ _ _ _ hf _ _ _ _ _ _ _ _ _ => hf.elim) (fun v4 S2 hf H locs cells slots hH hB => ?_)
          refine lv_istore_n (lv' := [(2, .int v4), (0, .ref l0), (1, .ref b), (3, .int l3), (4, .int l4)]) hx hb dL_build_22 rfl hl (by decide) rfl (fun ls hl => ?_)
          refine lv_iinc (v := l4 + 1) (lv' := [(4, .int (l4 + 1)), (2, .int v4), (0, .ref l0), (1, .ref b), (3, .int l3)]) hx hb dL_build_23 hl (k := 4) rfl rfl (by decide) rfl (fun ls hl => ?_)
          refine lv_goto (tgt := 12) hx hb dL_build_26 (by decide) ?_
          exact ih12 S2 (bc - mc3) (bs - ms3) l0 l3 (l4 + 1) hf H locs ls cells slots hH (lv_sub hl [2, 3, 4, 0] rfl) hB
    refine lv_iconst (v := 2) hx hb dL_build_0 (by decide) ?_
    refine lv_aload_n hx hb dL_build_1 rfl (lv_at hl 1 rfl) ?_
    refine lv_iconst (v := 0) hx hb dL_build_2 (by decide) ?_
    refine lv_iconst (v := 5) hx hb dL_build_3 (by decide) ?_
    refine q_backI0 X hH (q_runS [.ref b, .int 0, .int 5] [.int 2] X hH hl (c_L_some l D cy G X.2.2.2.1 b L xs hGX S 0 5 _ _ hf) mf_L_some tw_976 tw_975 ⟨Nat.le_of_ble_eq_true rfl, Nat.le_of_ble_eq_true rfl⟩ rfl (Nat.le_of_ble_eq_true rfl) dL_build_4 ⟨Nat.le_trans (Nat.le_add_right _ _) hB.1, Nat.le_trans (Nat.le_add_right _ _) hB.2⟩) (fun v2 S1 hf H locs hH => ?_)
    refine lv_iadd hx hb dL_build_7 ?_
    refine lv_istore_n (lv' := [(3, .int ((2 : Int32) + v2)), (0, .ref a0), (1, .ref b)]) hx hb dL_build_8 rfl hl (by decide) rfl (fun ls hl => ?_)
    refine lv_iconst (v := 0) hx hb dL_build_9 (by decide) ?_
    refine lv_istore (lv' := [(4, .int 0), (3, .int ((2 : Int32) + v2)), (0, .ref a0), (1, .ref b)]) hx hb dL_build_10 hl (by decide) rfl (fun ls hl => ?_)
    exact hL12 4096 S1 bc bs a0 ((2 : Int32) + v2) 0 hf H locs ls cells slots hH (lv_sub hl [2, 3, 1, 0] rfl) hB
  exact main s.heap [] ls 0 0 mc ms hf hH hl ⟨by omega, by omega⟩
