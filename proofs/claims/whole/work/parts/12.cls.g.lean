-- X7_joined
def f_X7_joined (S : PS) (a0 : Nat) (a1 : Int32) (a2 : Int32) (bc bs : Nat) (post : Int32 → PS → Prop) (postX : String → PS → Prop) : Prop :=
  isO S a0 11 (
  f_X7_hasPhase S a0 a1 fun v2 S1 => (
  if v2 = 0 then
    tX S1 "java/lang/IndexOutOfBoundsException" bc bs postX
  else
    gR S1 a0 11 4 fun v4 => (
    gR S1 a0 11 0 fun v5 => (
    isO S1 v4 7 (
    f_X3_measure S1 v4 v5 fun S6 => (
    gR S6 a0 11 4 fun v8 => (
    isO S6 v8 7 (
    f_X3_hasPlace S6 v8 a1 a2 fun v10 S9 => (
    if v10 = 0 then
      tX S9 "java/util/NoSuchElementException" bc bs postX
    else
      gR S9 a0 11 4 fun v12 => (
      isO S9 v12 7 (
      f_X3_groupAt S9 v12 a1 a2 fun v14 S13 => (
      f_X7_lowestOf S13 v14 fun v16 S15 => (
      post v16 S15)))))))))))))
abbrev rm_X7_joined (mc ms : Nat) : Room := { frames := 6, cells := mc, slots := ms, locals := 94 }
set_option maxHeartbeats 4000000 in
set_option maxRecDepth 100000 in
theorem c_X7_joined (l : Launch) (D : va_G) (cy : Nat → ClassId) (G : p_GT) (hG : p_ok G) (hst : l.stackTraces = false) (hGE : ∀ (A : Nat → Prop) (U : State) (H : Heap), G A U H → p_Ex A U H) (S : PS) (a0 : Nat) (a1 : Int32) (a2 : Int32) (mc ms : Nat) (post : Int32 → PS → Prop) (postX : String → PS → Prop) (sz : Nat) (hf : f_X7_joined S a0 a1 a2 mc ms post postX) : p_Xi l D cy G S sz yX7_joined (Cond.code yX7_joined cX7_joined 3 (some .int) :: wG) (rm_X7_joined mc ms) [.ref a0, .int a1, .int a2] mc ms post postX := by
  refine q_startX hG (Qc := fun A => va_Qi post (p_Post D cy A) A) (XC := fun A => p_XC D cy A postX) mf_X7_joined (Nat.le_of_ble_eq_true rfl) (own := RX7) rfl ?_
  intro p e s m below meth c A X hr hlk hnm htab ls hl hH
  have hx := X.1.1
  have hb := X.1.2.1
  replace hl : lv_has ls 3 [(0, .ref a0), (1, .int a1), (2, .int a2)] := hl
  have main : ∀ (H : Heap) (locs : List Loc) (ls : Array Slot) (cells slots bc bs : Nat), f_X7_joined S a0 a1 a2 bc bs post postX → p_H D cy S A s H locs → lv_has ls 3 [(0, .ref a0), (1, .int a1), (2, .int a2)] → cells + bc ≤ mc ∧ slots + bs ≤ ms → W p l e (rm_X7_joined mc ms) s m [.ref a0, .int a1, .int a2].toArray below meth c H locs cells slots (vx_MQ below (va_Qi post (p_Post D cy A) A) (p_XC D cy A postX) [.ref a0, .int a1, .int a2].toArray s mc ms A) (F0 m 0 ls []) := by
    intro H locs ls cells slots bc bs hf hH hl hB
    refine lv_aload_n hx hb dX7_joined_0 rfl (lv_at hl 0 rfl) ?_
    refine lv_iload_n hx hb dX7_joined_1 rfl (lv_at hl 1 rfl) ?_
    obtain ⟨hb1, hb2, hf⟩ := hf
    refine q_backI0 X hH (q_runV [.int a1] [] X hH hl (c_X7_hasPhase l D cy G X.2.2.2.1 S a0 a1 _ _ hf) mf_X7_hasPhase mv_X7_hasPhase tw_1160 ⟨Nat.le_of_ble_eq_true rfl, Nat.le_of_ble_eq_true rfl⟩ hb1 hb2 (T := TX7) (N := 12) rfl rfl (Nat.le_of_ble_eq_true rfl) dX7_joined_2 ⟨Nat.le_trans (Nat.le_add_right _ _) hB.1, Nat.le_trans (Nat.le_add_right _ _) hB.2⟩) (fun v2 S1 hf H locs hH => ?_)
    refine lv_if_ne (tgt := 18) hx hb dX7_joined_5 (by decide) (fun c3 => ?_) (fun c3 => ?_)
    · have hf := (if_neg c3).mp hf
      refine lv_aload_n hx hb dX7_joined_18 rfl (lv_at hl 0 rfl) ?_
      refine q_getR (T := TX7) (N := 12) X hH hf iw_X7 rfl (by decide) tw_323 (fun _ h => h) dX7_joined_19 (fun v4 hf => ?_)
      refine lv_aload_n hx hb dX7_joined_22 rfl (lv_at hl 0 rfl) ?_
      refine q_getR (T := TX7) (N := 12) X hH hf iw_X7 rfl (by decide) tw_319 (fun _ h => h) dX7_joined_23 (fun v5 hf => ?_)
      obtain ⟨hb1, hb2, hf⟩ := hf
      refine q_backV0 X hH (q_runV [.ref v5] [] X hH hl (c_X3_measure l D cy G X.2.2.2.1 S1 v4 v5 _ _ hf) mf_X3_measure mv_X3_measure tw_439 ⟨Nat.le_of_ble_eq_true rfl, Nat.le_of_ble_eq_true rfl⟩ hb1 hb2 (T := TX3) (N := 6) rfl rfl (Nat.le_of_ble_eq_true rfl) dX7_joined_26 ⟨Nat.le_trans (Nat.le_add_right _ _) hB.1, Nat.le_trans (Nat.le_add_right _ _) hB.2⟩) (fun S6 hf H locs hH => ?_)
      refine lv_aload_n hx hb dX7_joined_29 rfl (lv_at hl 0 rfl) ?_
      refine q_getR (T := TX7) (N := 12) X hH hf iw_X7 rfl (by decide) tw_323 (fun _ h => h) dX7_joined_30 (fun v8 hf => ?_)
      refine lv_iload_n hx hb dX7_joined_33 rfl (lv_at hl 1 rfl) ?_
      refine lv_iload_n hx hb dX7_joined_34 rfl (lv_at hl 2 rfl) ?_
      obtain ⟨hb1, hb2, hf⟩ := hf
      refine q_backI0 X hH (q_runV [.int a1, .int a2] [] X hH hl (c_X3_hasPlace l D cy G X.2.2.2.1 S6 v8 a1 a2 _ _ hf) mf_X3_hasPlace mv_X3_hasPlace tw_1176 ⟨Nat.le_of_ble_eq_true rfl, Nat.le_of_ble_eq_true rfl⟩ hb1 hb2 (T := TX3) (N := 6) rfl rfl (Nat.le_of_ble_eq_true rfl) dX7_joined_35 ⟨Nat.le_trans (Nat.le_add_right _ _) hB.1, Nat.le_trans (Nat.le_add_right _ _) hB.2⟩) (fun v10 S9 hf H locs hH => ?_)
      refine lv_if_ne (tgt := 51) hx hb dX7_joined_38 (by decide) (fun c11 => ?_) (fun c11 => ?_)
      · have hf := (if_neg c11).mp hf
        refine lv_aload_n hx hb dX7_joined_51 rfl (lv_at hl 0 rfl) ?_
        refine q_getR (T := TX7) (N := 12) X hH hf iw_X7 rfl (by decide) tw_323 (fun _ h => h) dX7_joined_52 (fun v12 hf => ?_)
        refine lv_iload_n hx hb dX7_joined_55 rfl (lv_at hl 1 rfl) ?_
        refine lv_iload_n hx hb dX7_joined_56 rfl (lv_at hl 2 rfl) ?_
        obtain ⟨hb1, hb2, hf⟩ := hf
        refine q_backI0 X hH (q_runV [.int a1, .int a2] [] X hH hl (c_X3_groupAt l D cy G X.2.2.2.1 S9 v12 a1 a2 _ _ hf) mf_X3_groupAt mv_X3_groupAt tw_1166 ⟨Nat.le_of_ble_eq_true rfl, Nat.le_of_ble_eq_true rfl⟩ hb1 hb2 (T := TX3) (N := 6) rfl rfl (Nat.le_of_ble_eq_true rfl) dX7_joined_57 ⟨Nat.le_trans (Nat.le_add_right _ _) hB.1, Nat.le_trans (Nat.le_add_right _ _) hB.2⟩) (fun v14 S13 hf H locs hH => ?_)
        refine q_backI0 X hH (q_runS [.int v14] [] X hH hl (c_X7_lowestOf l D cy G X.2.2.2.1 S13 v14 _ _ hf) mf_X7_lowestOf tw_420 tw_419 ⟨Nat.le_of_ble_eq_true rfl, Nat.le_of_ble_eq_true rfl⟩ rfl (Nat.le_of_ble_eq_true rfl) dX7_joined_60 ⟨Nat.le_trans (Nat.le_add_right _ _) hB.1, Nat.le_trans (Nat.le_add_right _ _) hB.2⟩) (fun v16 S15 hf H locs hH => ?_)
        exact vx_ret (q_retI X hH hr hlk hf (Nat.le_trans (Nat.le_add_right _ _) hB.1) (Nat.le_trans (Nat.le_add_right _ _) hB.2) dX7_joined_63)
      · have hf := (if_pos c11).mp hf
        exact q_throwX (by decide +kernel) (by decide +kernel) (by decide +kernel) (by decide +kernel) X hH hl hB rfl rfl hst (hGE _ _ _ X.2.2.2.2) hf tw_1177 tw_114 (text := "there is no such place") (List.mem_of_getElem? (i := 11) rfl) xa_NoSuchElementException xg_NoSuchElementException (by decide +kernel) (by decide +kernel) dX7_joined_41 dX7_joined_44 dX7_joined_45 dX7_joined_47 dX7_joined_50 htab ⟨Nat.le_of_ble_eq_true rfl, Nat.le_of_ble_eq_true rfl⟩ (Nat.le_of_ble_eq_true rfl) hlk
    · have hf := (if_pos c3).mp hf
      exact q_throw X hH hl hB rfl rfl hst (hGE _ _ _ X.2.2.2.2) hf tw_1106 tw_111 (text := "there is no such phase") (List.mem_of_getElem? (i := 9) rfl) xa_IndexOutOfBoundsException xg_IndexOutOfBoundsException (by decide +kernel) (by decide +kernel) dX7_joined_8 dX7_joined_11 dX7_joined_12 dX7_joined_14 dX7_joined_17 htab ⟨Nat.le_of_ble_eq_true rfl, Nat.le_of_ble_eq_true rfl⟩ (Nat.le_of_ble_eq_true rfl) hlk
  exact main s.heap [] ls 0 0 mc ms hf hH hl ⟨by omega, by omega⟩
-- X7_tieAt
def f_X7_tieAt (S : PS) (a0 : Nat) (a1 : Int32) (a2 : Int32) (bc bs : Nat) (post : Int32 → PS → Prop) (postX : String → PS → Prop) : Prop :=
  isO S a0 11 (
  f_X7_hasPhase S a0 a1 fun v2 S1 => (
  if v2 = 0 then
    tX S1 "java/lang/IndexOutOfBoundsException" bc bs postX
  else
    gR S1 a0 11 4 fun v4 => (
    gR S1 a0 11 0 fun v5 => (
    isO S1 v4 7 (
    f_X3_measure S1 v4 v5 fun S6 => (
    gR S6 a0 11 4 fun v8 => (
    isO S6 v8 7 (
    f_X3_hasPlace S6 v8 a1 a2 fun v10 S9 => (
    if v10 = 0 then
      tX S9 "java/util/NoSuchElementException" bc bs postX
    else
      gR S9 a0 11 4 fun v12 => (
      isO S9 v12 7 (
      f_X3_pullAt S9 v12 a1 a2 fun v14 S13 => (
      post v14 S13))))))))))))
abbrev rm_X7_tieAt (mc ms : Nat) : Room := { frames := 6, cells := mc, slots := ms, locals := 94 }
set_option maxHeartbeats 4000000 in
set_option maxRecDepth 100000 in
theorem c_X7_tieAt (l : Launch) (D : va_G) (cy : Nat → ClassId) (G : p_GT) (hG : p_ok G) (hst : l.stackTraces = false) (hGE : ∀ (A : Nat → Prop) (U : State) (H : Heap), G A U H → p_Ex A U H) (S : PS) (a0 : Nat) (a1 : Int32) (a2 : Int32) (mc ms : Nat) (post : Int32 → PS → Prop) (postX : String → PS → Prop) (sz : Nat) (hf : f_X7_tieAt S a0 a1 a2 mc ms post postX) : p_Xi l D cy G S sz yX7_tieAt (Cond.code yX7_tieAt cX7_tieAt 3 (some .int) :: wG) (rm_X7_tieAt mc ms) [.ref a0, .int a1, .int a2] mc ms post postX := by
  refine q_startX hG (Qc := fun A => va_Qi post (p_Post D cy A) A) (XC := fun A => p_XC D cy A postX) mf_X7_tieAt (Nat.le_of_ble_eq_true rfl) (own := RX7) rfl ?_
  intro p e s m below meth c A X hr hlk hnm htab ls hl hH
  have hx := X.1.1
  have hb := X.1.2.1
  replace hl : lv_has ls 3 [(0, .ref a0), (1, .int a1), (2, .int a2)] := hl
  have main : ∀ (H : Heap) (locs : List Loc) (ls : Array Slot) (cells slots bc bs : Nat), f_X7_tieAt S a0 a1 a2 bc bs post postX → p_H D cy S A s H locs → lv_has ls 3 [(0, .ref a0), (1, .int a1), (2, .int a2)] → cells + bc ≤ mc ∧ slots + bs ≤ ms → W p l e (rm_X7_tieAt mc ms) s m [.ref a0, .int a1, .int a2].toArray below meth c H locs cells slots (vx_MQ below (va_Qi post (p_Post D cy A) A) (p_XC D cy A postX) [.ref a0, .int a1, .int a2].toArray s mc ms A) (F0 m 0 ls []) := by
    intro H locs ls cells slots bc bs hf hH hl hB
    refine lv_aload_n hx hb dX7_tieAt_0 rfl (lv_at hl 0 rfl) ?_
    refine lv_iload_n hx hb dX7_tieAt_1 rfl (lv_at hl 1 rfl) ?_
    obtain ⟨hb1, hb2, hf⟩ := hf
    refine q_backI0 X hH (q_runV [.int a1] [] X hH hl (c_X7_hasPhase l D cy G X.2.2.2.1 S a0 a1 _ _ hf) mf_X7_hasPhase mv_X7_hasPhase tw_1160 ⟨Nat.le_of_ble_eq_true rfl, Nat.le_of_ble_eq_true rfl⟩ hb1 hb2 (T := TX7) (N := 12) rfl rfl (Nat.le_of_ble_eq_true rfl) dX7_tieAt_2 ⟨Nat.le_trans (Nat.le_add_right _ _) hB.1, Nat.le_trans (Nat.le_add_right _ _) hB.2⟩) (fun v2 S1 hf H locs hH => ?_)
    refine lv_if_ne (tgt := 18) hx hb dX7_tieAt_5 (by decide) (fun c3 => ?_) (fun c3 => ?_)
    · have hf := (if_neg c3).mp hf
      refine lv_aload_n hx hb dX7_tieAt_18 rfl (lv_at hl 0 rfl) ?_
      refine q_getR (T := TX7) (N := 12) X hH hf iw_X7 rfl (by decide) tw_323 (fun _ h => h) dX7_tieAt_19 (fun v4 hf => ?_)
      refine lv_aload_n hx hb dX7_tieAt_22 rfl (lv_at hl 0 rfl) ?_
      refine q_getR (T := TX7) (N := 12) X hH hf iw_X7 rfl (by decide) tw_319 (fun _ h => h) dX7_tieAt_23 (fun v5 hf => ?_)
      obtain ⟨hb1, hb2, hf⟩ := hf
      refine q_backV0 X hH (q_runV [.ref v5] [] X hH hl (c_X3_measure l D cy G X.2.2.2.1 S1 v4 v5 _ _ hf) mf_X3_measure mv_X3_measure tw_439 ⟨Nat.le_of_ble_eq_true rfl, Nat.le_of_ble_eq_true rfl⟩ hb1 hb2 (T := TX3) (N := 6) rfl rfl (Nat.le_of_ble_eq_true rfl) dX7_tieAt_26 ⟨Nat.le_trans (Nat.le_add_right _ _) hB.1, Nat.le_trans (Nat.le_add_right _ _) hB.2⟩) (fun S6 hf H locs hH => ?_)
      refine lv_aload_n hx hb dX7_tieAt_29 rfl (lv_at hl 0 rfl) ?_
      refine q_getR (T := TX7) (N := 12) X hH hf iw_X7 rfl (by decide) tw_323 (fun _ h => h) dX7_tieAt_30 (fun v8 hf => ?_)
      refine lv_iload_n hx hb dX7_tieAt_33 rfl (lv_at hl 1 rfl) ?_
      refine lv_iload_n hx hb dX7_tieAt_34 rfl (lv_at hl 2 rfl) ?_
      obtain ⟨hb1, hb2, hf⟩ := hf
      refine q_backI0 X hH (q_runV [.int a1, .int a2] [] X hH hl (c_X3_hasPlace l D cy G X.2.2.2.1 S6 v8 a1 a2 _ _ hf) mf_X3_hasPlace mv_X3_hasPlace tw_1176 ⟨Nat.le_of_ble_eq_true rfl, Nat.le_of_ble_eq_true rfl⟩ hb1 hb2 (T := TX3) (N := 6) rfl rfl (Nat.le_of_ble_eq_true rfl) dX7_tieAt_35 ⟨Nat.le_trans (Nat.le_add_right _ _) hB.1, Nat.le_trans (Nat.le_add_right _ _) hB.2⟩) (fun v10 S9 hf H locs hH => ?_)
      refine lv_if_ne (tgt := 51) hx hb dX7_tieAt_38 (by decide) (fun c11 => ?_) (fun c11 => ?_)
      · have hf := (if_neg c11).mp hf
        refine lv_aload_n hx hb dX7_tieAt_51 rfl (lv_at hl 0 rfl) ?_
        refine q_getR (T := TX7) (N := 12) X hH hf iw_X7 rfl (by decide) tw_323 (fun _ h => h) dX7_tieAt_52 (fun v12 hf => ?_)
        refine lv_iload_n hx hb dX7_tieAt_55 rfl (lv_at hl 1 rfl) ?_
        refine lv_iload_n hx hb dX7_tieAt_56 rfl (lv_at hl 2 rfl) ?_
        obtain ⟨hb1, hb2, hf⟩ := hf
        refine q_backI0 X hH (q_runV [.int a1, .int a2] [] X hH hl (c_X3_pullAt l D cy G X.2.2.2.1 S9 v12 a1 a2 _ _ hf) mf_X3_pullAt mv_X3_pullAt tw_1200 ⟨Nat.le_of_ble_eq_true rfl, Nat.le_of_ble_eq_true rfl⟩ hb1 hb2 (T := TX3) (N := 6) rfl rfl (Nat.le_of_ble_eq_true rfl) dX7_tieAt_57 ⟨Nat.le_trans (Nat.le_add_right _ _) hB.1, Nat.le_trans (Nat.le_add_right _ _) hB.2⟩) (fun v14 S13 hf H locs hH => ?_)
        exact vx_ret (q_retI X hH hr hlk hf (Nat.le_trans (Nat.le_add_right _ _) hB.1) (Nat.le_trans (Nat.le_add_right _ _) hB.2) dX7_tieAt_60)
      · have hf := (if_pos c11).mp hf
        exact q_throwX (by decide +kernel) (by decide +kernel) (by decide +kernel) (by decide +kernel) X hH hl hB rfl rfl hst (hGE _ _ _ X.2.2.2.2) hf tw_1177 tw_114 (text := "there is no such place") (List.mem_of_getElem? (i := 11) rfl) xa_NoSuchElementException xg_NoSuchElementException (by decide +kernel) (by decide +kernel) dX7_tieAt_41 dX7_tieAt_44 dX7_tieAt_45 dX7_tieAt_47 dX7_tieAt_50 htab ⟨Nat.le_of_ble_eq_true rfl, Nat.le_of_ble_eq_true rfl⟩ (Nat.le_of_ble_eq_true rfl) hlk
    · have hf := (if_pos c3).mp hf
      exact q_throw X hH hl hB rfl rfl hst (hGE _ _ _ X.2.2.2.2) hf tw_1106 tw_111 (text := "there is no such phase") (List.mem_of_getElem? (i := 9) rfl) xa_IndexOutOfBoundsException xg_IndexOutOfBoundsException (by decide +kernel) (by decide +kernel) dX7_tieAt_8 dX7_tieAt_11 dX7_tieAt_12 dX7_tieAt_14 dX7_tieAt_17 htab ⟨Nat.le_of_ble_eq_true rfl, Nat.le_of_ble_eq_true rfl⟩ (Nat.le_of_ble_eq_true rfl) hlk
  exact main s.heap [] ls 0 0 mc ms hf hH hl ⟨by omega, by omega⟩
-- X7_met
def f_X7_met (S : PS) (a0 : Nat) (bc bs : Nat) (post : Int32 → PS → Prop) (postX : String → PS → Prop) : Prop :=
  isO S a0 11 (
  f_X7_isTooSmall S a0 fun v2 S1 => (
  if v2 = 0 then
    gR S1 a0 11 4 fun v4 => (
    gR S1 a0 11 0 fun v5 => (
    isO S1 v4 7 (
    f_X3_measure S1 v4 v5 fun S6 => (
    gR S6 a0 11 4 fun v8 => (
    isO S6 v8 7 (
    f_X3_leastPhase S6 v8 fun v10 S9 => (
    post v10 S9)))))))
  else
    tX S1 "java/util/NoSuchElementException" bc bs postX))
abbrev rm_X7_met (mc ms : Nat) : Room := { frames := 6, cells := mc, slots := ms, locals := 94 }
set_option maxHeartbeats 4000000 in
set_option maxRecDepth 100000 in
theorem c_X7_met (l : Launch) (D : va_G) (cy : Nat → ClassId) (G : p_GT) (hG : p_ok G) (hst : l.stackTraces = false) (hGE : ∀ (A : Nat → Prop) (U : State) (H : Heap), G A U H → p_Ex A U H) (S : PS) (a0 : Nat) (mc ms : Nat) (post : Int32 → PS → Prop) (postX : String → PS → Prop) (sz : Nat) (hf : f_X7_met S a0 mc ms post postX) : p_Xi l D cy G S sz yX7_met (Cond.code yX7_met cX7_met 1 (some .int) :: wG) (rm_X7_met mc ms) [.ref a0] mc ms post postX := by
  refine q_startX hG (Qc := fun A => va_Qi post (p_Post D cy A) A) (XC := fun A => p_XC D cy A postX) mf_X7_met (Nat.le_of_ble_eq_true rfl) (own := RX7) rfl ?_
  intro p e s m below meth c A X hr hlk hnm htab ls hl hH
  have hx := X.1.1
  have hb := X.1.2.1
  replace hl : lv_has ls 1 [(0, .ref a0)] := hl
  have main : ∀ (H : Heap) (locs : List Loc) (ls : Array Slot) (cells slots bc bs : Nat), f_X7_met S a0 bc bs post postX → p_H D cy S A s H locs → lv_has ls 1 [(0, .ref a0)] → cells + bc ≤ mc ∧ slots + bs ≤ ms → W p l e (rm_X7_met mc ms) s m [.ref a0].toArray below meth c H locs cells slots (vx_MQ below (va_Qi post (p_Post D cy A) A) (p_XC D cy A postX) [.ref a0].toArray s mc ms A) (F0 m 0 ls []) := by
    intro H locs ls cells slots bc bs hf hH hl hB
    refine lv_aload_n hx hb dX7_met_0 rfl (lv_at hl 0 rfl) ?_
    obtain ⟨hb1, hb2, hf⟩ := hf
    refine q_backI0 X hH (q_runV [] [] X hH hl (c_X7_isTooSmall l D cy G X.2.2.2.1 S a0 _ _ hf) mf_X7_isTooSmall mv_X7_isTooSmall tw_427 ⟨Nat.le_of_ble_eq_true rfl, Nat.le_of_ble_eq_true rfl⟩ hb1 hb2 (T := TX7) (N := 12) rfl rfl (Nat.le_of_ble_eq_true rfl) dX7_met_1 ⟨Nat.le_trans (Nat.le_add_right _ _) hB.1, Nat.le_trans (Nat.le_add_right _ _) hB.2⟩) (fun v2 S1 hf H locs hH => ?_)
    refine lv_if_eq (tgt := 17) hx hb dX7_met_4 (by decide) (fun c3 => ?_) (fun c3 => ?_)
    · have hf := (if_pos c3).mp hf
      refine lv_aload_n hx hb dX7_met_17 rfl (lv_at hl 0 rfl) ?_
      refine q_getR (T := TX7) (N := 12) X hH hf iw_X7 rfl (by decide) tw_323 (fun _ h => h) dX7_met_18 (fun v4 hf => ?_)
      refine lv_aload_n hx hb dX7_met_21 rfl (lv_at hl 0 rfl) ?_
      refine q_getR (T := TX7) (N := 12) X hH hf iw_X7 rfl (by decide) tw_319 (fun _ h => h) dX7_met_22 (fun v5 hf => ?_)
      obtain ⟨hb1, hb2, hf⟩ := hf
      refine q_backV0 X hH (q_runV [.ref v5] [] X hH hl (c_X3_measure l D cy G X.2.2.2.1 S1 v4 v5 _ _ hf) mf_X3_measure mv_X3_measure tw_439 ⟨Nat.le_of_ble_eq_true rfl, Nat.le_of_ble_eq_true rfl⟩ hb1 hb2 (T := TX3) (N := 6) rfl rfl (Nat.le_of_ble_eq_true rfl) dX7_met_25 ⟨Nat.le_trans (Nat.le_add_right _ _) hB.1, Nat.le_trans (Nat.le_add_right _ _) hB.2⟩) (fun S6 hf H locs hH => ?_)
      refine lv_aload_n hx hb dX7_met_28 rfl (lv_at hl 0 rfl) ?_
      refine q_getR (T := TX7) (N := 12) X hH hf iw_X7 rfl (by decide) tw_323 (fun _ h => h) dX7_met_29 (fun v8 hf => ?_)
      obtain ⟨hb1, hb2, hf⟩ := hf
      refine q_backI0 X hH (q_runV [] [] X hH hl (c_X3_leastPhase l D cy G X.2.2.2.1 S6 v8 _ _ hf) mf_X3_leastPhase mv_X3_leastPhase tw_480 ⟨Nat.le_of_ble_eq_true rfl, Nat.le_of_ble_eq_true rfl⟩ hb1 hb2 (T := TX3) (N := 6) rfl rfl (Nat.le_of_ble_eq_true rfl) dX7_met_32 ⟨Nat.le_trans (Nat.le_add_right _ _) hB.1, Nat.le_trans (Nat.le_add_right _ _) hB.2⟩) (fun v10 S9 hf H locs hH => ?_)
      exact vx_ret (q_retI X hH hr hlk hf (Nat.le_trans (Nat.le_add_right _ _) hB.1) (Nat.le_trans (Nat.le_add_right _ _) hB.2) dX7_met_35)
    · have hf := (if_neg c3).mp hf
      exact q_throwX (by decide +kernel) (by decide +kernel) (by decide +kernel) (by decide +kernel) X hH hl hB rfl rfl hst (hGE _ _ _ X.2.2.2.2) hf tw_1177 tw_114 (text := "there are fewer than two households") (List.mem_of_getElem? (i := 6) rfl) xa_NoSuchElementException xg_NoSuchElementException (by decide +kernel) (by decide +kernel) dX7_met_7 dX7_met_10 dX7_met_11 dX7_met_13 dX7_met_16 htab ⟨Nat.le_of_ble_eq_true rfl, Nat.le_of_ble_eq_true rfl⟩ (Nat.le_of_ble_eq_true rfl) hlk
  exact main s.heap [] ls 0 0 mc ms hf hH hl ⟨by omega, by omega⟩
-- X7_betweenAgain
def f_X7_betweenAgain_J22 (post : Int32 → PS → Prop) (postX : String → PS → Prop) (S : PS) (bc bs : Nat)  : Prop :=
  tX S "java/lang/IndexOutOfBoundsException" bc bs postX
def f_X7_betweenAgain (S : PS) (a0 : Nat) (a1 : Int32) (a2 : Int32) (bc bs : Nat) (post : Int32 → PS → Prop) (postX : String → PS → Prop) : Prop :=
  gR S a0 11 0 fun v1 => (
  isO S v1 10 (
  f_X6_has S v1 a1 fun v3 S2 => (
  if v3 = 0 then
    f_X7_betweenAgain_J22 post postX S2 bc bs
  else
    gR S2 a0 11 0 fun v5 => (
    isO S2 v5 10 (
    f_X6_has S2 v5 a2 fun v7 S6 => (
    if v7 = 0 then
      f_X7_betweenAgain_J22 post postX S6 bc bs
    else
      if a1 = a2 then
        tX S6 "java/lang/IllegalArgumentException" bc bs postX
      else
        gR S6 a0 11 6 fun v10 => (
        gR S6 a0 11 0 fun v11 => (
        isO S6 v10 5 (
        f_X1_mostFlow S6 v10 v11 a1 a2 fun v13 S12 => (
        post v13 S12))))))))))
abbrev rm_X7_betweenAgain (mc ms : Nat) : Room := { frames := 6, cells := mc, slots := ms, locals := 96 }
set_option maxHeartbeats 4000000 in
set_option maxRecDepth 100000 in
theorem c_X7_betweenAgain (l : Launch) (D : va_G) (cy : Nat → ClassId) (G : p_GT) (hG : p_ok G) (hst : l.stackTraces = false) (hGE : ∀ (A : Nat → Prop) (U : State) (H : Heap), G A U H → p_Ex A U H) (S : PS) (a0 : Nat) (a1 : Int32) (a2 : Int32) (mc ms : Nat) (post : Int32 → PS → Prop) (postX : String → PS → Prop) (sz : Nat) (hf : f_X7_betweenAgain S a0 a1 a2 mc ms post postX) : p_Xi l D cy G S sz yX7_betweenAgain (Cond.code yX7_betweenAgain cX7_betweenAgain 3 (some .int) :: wG) (rm_X7_betweenAgain mc ms) [.ref a0, .int a1, .int a2] mc ms post postX := by
  refine q_startX hG (Qc := fun A => va_Qi post (p_Post D cy A) A) (XC := fun A => p_XC D cy A postX) mf_X7_betweenAgain (Nat.le_of_ble_eq_true rfl) (own := RX7) rfl ?_
  intro p e s m below meth c A X hr hlk hnm htab ls hl hH
  have hx := X.1.1
  have hb := X.1.2.1
  replace hl : lv_has ls 3 [(0, .ref a0), (1, .int a1), (2, .int a2)] := hl
  have main : ∀ (H : Heap) (locs : List Loc) (ls : Array Slot) (cells slots bc bs : Nat), f_X7_betweenAgain S a0 a1 a2 bc bs post postX → p_H D cy S A s H locs → lv_has ls 3 [(0, .ref a0), (1, .int a1), (2, .int a2)] → cells + bc ≤ mc ∧ slots + bs ≤ ms → W p l e (rm_X7_betweenAgain mc ms) s m [.ref a0, .int a1, .int a2].toArray below meth c H locs cells slots (vx_MQ below (va_Qi post (p_Post D cy A) A) (p_XC D cy A postX) [.ref a0, .int a1, .int a2].toArray s mc ms A) (F0 m 0 ls []) := by
    intro H locs ls cells slots bc bs hf hH hl hB
    have hJ22 : ∀ (S : PS) (bc bs : Nat), f_X7_betweenAgain_J22 post postX S bc bs → ∀ (H : Heap) (locs : List Loc) (ls : Array Slot) (cells slots : Nat), p_H D cy S A s H locs → lv_has ls 3 [] → cells + bc ≤ mc ∧ slots + bs ≤ ms → W p l e (rm_X7_betweenAgain mc ms) s m [.ref a0, .int a1, .int a2].toArray below meth c H locs cells slots (vx_MQ below (va_Qi post (p_Post D cy A) A) (p_XC D cy A postX) [.ref a0, .int a1, .int a2].toArray s mc ms A) (F0 m 22 ls []) := by
      intro S bc bs hf H locs ls cells slots hH hl hB
      exact q_throw X hH hl hB rfl rfl hst (hGE _ _ _ X.2.2.2.2) hf tw_1106 tw_111 (text := "there is no such household") (List.mem_of_getElem? (i := 1) rfl) xa_IndexOutOfBoundsException xg_IndexOutOfBoundsException (by decide +kernel) (by decide +kernel) dX7_betweenAgain_22 dX7_betweenAgain_25 dX7_betweenAgain_26 dX7_betweenAgain_28 dX7_betweenAgain_31 htab ⟨Nat.le_of_ble_eq_true rfl, Nat.le_of_ble_eq_true rfl⟩ (Nat.le_of_ble_eq_true rfl) hlk
    refine lv_aload_n hx hb dX7_betweenAgain_0 rfl (lv_at hl 0 rfl) ?_
    refine q_getR (T := TX7) (N := 12) X hH hf iw_X7 rfl (by decide) tw_319 (fun _ h => h) dX7_betweenAgain_1 (fun v1 hf => ?_)
    refine lv_iload_n hx hb dX7_betweenAgain_4 rfl (lv_at hl 1 rfl) ?_
    obtain ⟨hb1, hb2, hf⟩ := hf
    refine q_backI0 X hH (q_runV [.int a1] [] X hH hl (c_X6_has l D cy G X.2.2.2.1 S v1 a1 _ _ hf) mf_X6_has mv_X6_has tw_973 ⟨Nat.le_of_ble_eq_true rfl, Nat.le_of_ble_eq_true rfl⟩ hb1 hb2 (T := TX6) (N := 6) rfl rfl (Nat.le_of_ble_eq_true rfl) dX7_betweenAgain_5 ⟨Nat.le_trans (Nat.le_add_right _ _) hB.1, Nat.le_trans (Nat.le_add_right _ _) hB.2⟩) (fun v3 S2 hf H locs hH => ?_)
    refine lv_if_eq (tgt := 22) hx hb dX7_betweenAgain_8 (by decide) (fun c4 => ?_) (fun c4 => ?_)
    · have hf := (if_pos c4).mp hf
      exact hJ22 S2 bc bs hf H locs ls cells slots hH (lv_sub hl [] rfl) hB
    · have hf := (if_neg c4).mp hf
      refine lv_aload_n hx hb dX7_betweenAgain_11 rfl (lv_at hl 0 rfl) ?_
      refine q_getR (T := TX7) (N := 12) X hH hf iw_X7 rfl (by decide) tw_319 (fun _ h => h) dX7_betweenAgain_12 (fun v5 hf => ?_)
      refine lv_iload_n hx hb dX7_betweenAgain_15 rfl (lv_at hl 2 rfl) ?_
      obtain ⟨hb1, hb2, hf⟩ := hf
      refine q_backI0 X hH (q_runV [.int a2] [] X hH hl (c_X6_has l D cy G X.2.2.2.1 S2 v5 a2 _ _ hf) mf_X6_has mv_X6_has tw_973 ⟨Nat.le_of_ble_eq_true rfl, Nat.le_of_ble_eq_true rfl⟩ hb1 hb2 (T := TX6) (N := 6) rfl rfl (Nat.le_of_ble_eq_true rfl) dX7_betweenAgain_16 ⟨Nat.le_trans (Nat.le_add_right _ _) hB.1, Nat.le_trans (Nat.le_add_right _ _) hB.2⟩) (fun v7 S6 hf H locs hH => ?_)
      refine lv_if_ne (tgt := 32) hx hb dX7_betweenAgain_19 (by decide) (fun c8 => ?_) (fun c8 => ?_)
      · have hf := (if_neg c8).mp hf
        refine lv_iload_n hx hb dX7_betweenAgain_32 rfl (lv_at hl 1 rfl) ?_
        refine lv_iload_n hx hb dX7_betweenAgain_33 rfl (lv_at hl 2 rfl) ?_
        refine lv_icmp_ne (tgt := 47) hx hb dX7_betweenAgain_34 (by decide) (fun c9 => ?_) (fun c9 => ?_)
        · have hf := (if_neg c9).mp hf
          refine lv_aload_n hx hb dX7_betweenAgain_47 rfl (lv_at hl 0 rfl) ?_
          refine q_getR (T := TX7) (N := 12) X hH hf iw_X7 rfl (by decide) tw_325 (fun _ h => h) dX7_betweenAgain_48 (fun v10 hf => ?_)
          refine lv_aload_n hx hb dX7_betweenAgain_51 rfl (lv_at hl 0 rfl) ?_
          refine q_getR (T := TX7) (N := 12) X hH hf iw_X7 rfl (by decide) tw_319 (fun _ h => h) dX7_betweenAgain_52 (fun v11 hf => ?_)
          refine lv_iload_n hx hb dX7_betweenAgain_55 rfl (lv_at hl 1 rfl) ?_
          refine lv_iload_n hx hb dX7_betweenAgain_56 rfl (lv_at hl 2 rfl) ?_
          obtain ⟨hb1, hb2, hf⟩ := hf
          refine q_backI0 X hH (q_runV [.ref v11, .int a1, .int a2] [] X hH hl (c_X1_mostFlow l D cy G X.2.2.2.1 S6 v10 v11 a1 a2 _ _ hf) mf_X1_mostFlow mv_X1_mostFlow tw_511 ⟨Nat.le_of_ble_eq_true rfl, Nat.le_of_ble_eq_true rfl⟩ hb1 hb2 (T := TX1) (N := 3) rfl rfl (Nat.le_of_ble_eq_true rfl) dX7_betweenAgain_57 ⟨Nat.le_trans (Nat.le_add_right _ _) hB.1, Nat.le_trans (Nat.le_add_right _ _) hB.2⟩) (fun v13 S12 hf H locs hH => ?_)
          exact vx_ret (q_retI X hH hr hlk hf (Nat.le_trans (Nat.le_add_right _ _) hB.1) (Nat.le_trans (Nat.le_add_right _ _) hB.2) dX7_betweenAgain_60)
        · have hf := (if_pos c9).mp hf
          exact q_throw X hH hl hB rfl rfl hst (hGE _ _ _ X.2.2.2.2) hf tw_1134 tw_113 (text := "both are one household") (List.mem_of_getElem? (i := 12) rfl) xa_IllegalArgumentException xg_IllegalArgumentException (by decide +kernel) (by decide +kernel) dX7_betweenAgain_37 dX7_betweenAgain_40 dX7_betweenAgain_41 dX7_betweenAgain_43 dX7_betweenAgain_46 htab ⟨Nat.le_of_ble_eq_true rfl, Nat.le_of_ble_eq_true rfl⟩ (Nat.le_of_ble_eq_true rfl) hlk
      · have hf := (if_pos c8).mp hf
        exact hJ22 S6 bc bs hf H locs ls cells slots hH (lv_sub hl [] rfl) hB
  exact main s.heap [] ls 0 0 mc ms hf hH hl ⟨by omega, by omega⟩
-- X7_ranked
def f_X7_ranked_J9 (post : Int32 → PS → Prop) (postX : String → PS → Prop) (S : PS) (bc bs : Nat)  : Prop :=
  tX S "java/lang/IllegalArgumentException" bc bs postX
def f_X7_ranked (S : PS) (a0 : Nat) (a1 : Int32) (a2 : Int32) (bc bs : Nat) (post : Int32 → PS → Prop) (postX : String → PS → Prop) : Prop :=
  if a1 < 0 then
    f_X7_ranked_J9 post postX S bc bs
  else
    if a1 ≤ 3 then
      gR S a0 11 0 fun v3 => (
      isO S v3 10 (
      f_X6_has S v3 a2 fun v5 S4 => (
      if v5 = 0 then
        tX S4 "java/util/NoSuchElementException" bc bs postX
      else
        isO S4 a0 11 (
        f_X7_fillKeys S4 a0 a1 fun S7 => (
        isO S7 a0 11 (
        f_X7_householdAtPlace S7 a0 a2 fun v10 S9 => (
        post v10 S9)))))))
    else
      f_X7_ranked_J9 post postX S bc bs
abbrev rm_X7_ranked (mc ms : Nat) : Room := { frames := 6, cells := mc, slots := ms, locals := 128 }
set_option maxHeartbeats 4000000 in
set_option maxRecDepth 100000 in
theorem c_X7_ranked (l : Launch) (D : va_G) (cy : Nat → ClassId) (G : p_GT) (hG : p_ok G) (hst : l.stackTraces = false) (hGE : ∀ (A : Nat → Prop) (U : State) (H : Heap), G A U H → p_Ex A U H) (S : PS) (a0 : Nat) (a1 : Int32) (a2 : Int32) (mc ms : Nat) (post : Int32 → PS → Prop) (postX : String → PS → Prop) (sz : Nat) (hf : f_X7_ranked S a0 a1 a2 mc ms post postX) : p_Xi l D cy G S sz yX7_ranked (Cond.code yX7_ranked cX7_ranked 3 (some .int) :: wG) (rm_X7_ranked mc ms) [.ref a0, .int a1, .int a2] mc ms post postX := by
  refine q_startX hG (Qc := fun A => va_Qi post (p_Post D cy A) A) (XC := fun A => p_XC D cy A postX) mf_X7_ranked (Nat.le_of_ble_eq_true rfl) (own := RX7) rfl ?_
  intro p e s m below meth c A X hr hlk hnm htab ls hl hH
  have hx := X.1.1
  have hb := X.1.2.1
  replace hl : lv_has ls 3 [(0, .ref a0), (1, .int a1), (2, .int a2)] := hl
  have main : ∀ (H : Heap) (locs : List Loc) (ls : Array Slot) (cells slots bc bs : Nat), f_X7_ranked S a0 a1 a2 bc bs post postX → p_H D cy S A s H locs → lv_has ls 3 [(0, .ref a0), (1, .int a1), (2, .int a2)] → cells + bc ≤ mc ∧ slots + bs ≤ ms → W p l e (rm_X7_ranked mc ms) s m [.ref a0, .int a1, .int a2].toArray below meth c H locs cells slots (vx_MQ below (va_Qi post (p_Post D cy A) A) (p_XC D cy A postX) [.ref a0, .int a1, .int a2].toArray s mc ms A) (F0 m 0 ls []) := by
    intro H locs ls cells slots bc bs hf hH hl hB
    have hJ9 : ∀ (S : PS) (bc bs : Nat), f_X7_ranked_J9 post postX S bc bs → ∀ (H : Heap) (locs : List Loc) (ls : Array Slot) (cells slots : Nat), p_H D cy S A s H locs → lv_has ls 3 [] → cells + bc ≤ mc ∧ slots + bs ≤ ms → W p l e (rm_X7_ranked mc ms) s m [.ref a0, .int a1, .int a2].toArray below meth c H locs cells slots (vx_MQ below (va_Qi post (p_Post D cy A) A) (p_XC D cy A postX) [.ref a0, .int a1, .int a2].toArray s mc ms A) (F0 m 9 ls []) := by
      intro S bc bs hf H locs ls cells slots hH hl hB
      exact q_throwW X hH hl hB rfl rfl hst (hGE _ _ _ X.2.2.2.2) hf tw_1134 tw_113 (text := "there is no such kind") (List.mem_of_getElem? (i := 18) rfl) xa_IllegalArgumentException xg_IllegalArgumentException (by decide +kernel) (by decide +kernel) dX7_ranked_9 dX7_ranked_12 dX7_ranked_13 dX7_ranked_16 dX7_ranked_19 htab ⟨Nat.le_of_ble_eq_true rfl, Nat.le_of_ble_eq_true rfl⟩ (Nat.le_of_ble_eq_true rfl) hlk
    refine lv_iload_n hx hb dX7_ranked_0 rfl (lv_at hl 1 rfl) ?_
    refine lv_if_lt (tgt := 9) hx hb dX7_ranked_1 (by decide) (fun c1 => ?_) (fun c1 => ?_)
    · have hf := (if_pos c1).mp hf
      exact hJ9 S bc bs hf H locs ls cells slots hH (lv_sub hl [] rfl) hB
    · have hf := (if_neg c1).mp hf
      refine lv_iload_n hx hb dX7_ranked_4 rfl (lv_at hl 1 rfl) ?_
      refine lv_iconst (v := 3) hx hb dX7_ranked_5 (by decide) ?_
      refine lv_icmp_le (tgt := 20) hx hb dX7_ranked_6 (by decide) (fun c2 => ?_) (fun c2 => ?_)
      · have hf := (if_pos c2).mp hf
        refine lv_aload_n hx hb dX7_ranked_20 rfl (lv_at hl 0 rfl) ?_
        refine q_getR (T := TX7) (N := 12) X hH hf iw_X7 rfl (by decide) tw_319 (fun _ h => h) dX7_ranked_21 (fun v3 hf => ?_)
        refine lv_iload_n hx hb dX7_ranked_24 rfl (lv_at hl 2 rfl) ?_
        obtain ⟨hb1, hb2, hf⟩ := hf
        refine q_backI0 X hH (q_runV [.int a2] [] X hH hl (c_X6_has l D cy G X.2.2.2.1 S v3 a2 _ _ hf) mf_X6_has mv_X6_has tw_973 ⟨Nat.le_of_ble_eq_true rfl, Nat.le_of_ble_eq_true rfl⟩ hb1 hb2 (T := TX6) (N := 6) rfl rfl (Nat.le_of_ble_eq_true rfl) dX7_ranked_25 ⟨Nat.le_trans (Nat.le_add_right _ _) hB.1, Nat.le_trans (Nat.le_add_right _ _) hB.2⟩) (fun v5 S4 hf H locs hH => ?_)
        refine lv_if_ne (tgt := 41) hx hb dX7_ranked_28 (by decide) (fun c6 => ?_) (fun c6 => ?_)
        · have hf := (if_neg c6).mp hf
          refine lv_aload_n hx hb dX7_ranked_41 rfl (lv_at hl 0 rfl) ?_
          refine lv_iload_n hx hb dX7_ranked_42 rfl (lv_at hl 1 rfl) ?_
          obtain ⟨hb1, hb2, hf⟩ := hf
          refine q_backV0 X hH (q_runV [.int a1] [] X hH hl (c_X7_fillKeys l D cy G X.2.2.2.1 S4 a0 a1 _ _ hf) mf_X7_fillKeys mv_X7_fillKeys tw_1344 ⟨Nat.le_of_ble_eq_true rfl, Nat.le_of_ble_eq_true rfl⟩ hb1 hb2 (T := TX7) (N := 12) rfl rfl (Nat.le_of_ble_eq_true rfl) dX7_ranked_43 ⟨Nat.le_trans (Nat.le_add_right _ _) hB.1, Nat.le_trans (Nat.le_add_right _ _) hB.2⟩) (fun S7 hf H locs hH => ?_)
          refine lv_aload_n hx hb dX7_ranked_46 rfl (lv_at hl 0 rfl) ?_
          refine lv_iload_n hx hb dX7_ranked_47 rfl (lv_at hl 2 rfl) ?_
          obtain ⟨hb1, hb2, hf⟩ := hf
          refine q_backI0 X hH (q_runV [.int a2] [] X hH hl (c_X7_householdAtPlace l D cy G X.2.2.2.1 S7 a0 a2 _ _ hf) mf_X7_householdAtPlace mv_X7_householdAtPlace tw_1353 ⟨Nat.le_of_ble_eq_true rfl, Nat.le_of_ble_eq_true rfl⟩ hb1 hb2 (T := TX7) (N := 12) rfl rfl (Nat.le_of_ble_eq_true rfl) dX7_ranked_48 ⟨Nat.le_trans (Nat.le_add_right _ _) hB.1, Nat.le_trans (Nat.le_add_right _ _) hB.2⟩) (fun v10 S9 hf H locs hH => ?_)
          exact vx_ret (q_retI X hH hr hlk hf (Nat.le_trans (Nat.le_add_right _ _) hB.1) (Nat.le_trans (Nat.le_add_right _ _) hB.2) dX7_ranked_51)
        · have hf := (if_pos c6).mp hf
          exact q_throwX (by decide +kernel) (by decide +kernel) (by decide +kernel) (by decide +kernel) X hH hl hB rfl rfl hst (hGE _ _ _ X.2.2.2.2) hf tw_1177 tw_114 (text := "there is no such place") (List.mem_of_getElem? (i := 11) rfl) xa_NoSuchElementException xg_NoSuchElementException (by decide +kernel) (by decide +kernel) dX7_ranked_31 dX7_ranked_34 dX7_ranked_35 dX7_ranked_37 dX7_ranked_40 htab ⟨Nat.le_of_ble_eq_true rfl, Nat.le_of_ble_eq_true rfl⟩ (Nat.le_of_ble_eq_true rfl) hlk
      · have hf := (if_neg c2).mp hf
        exact hJ9 S bc bs hf H locs ls cells slots hH (lv_sub hl [] rfl) hB
  exact main s.heap [] ls 0 0 mc ms hf hH hl ⟨by omega, by omega⟩
-- X7_append
def f_X7_append_J12 (post : Int32 → PS → Prop) (postX : String → PS → Prop) (S : PS) (bc bs : Nat)  : Prop :=
  tX S "java/lang/IllegalArgumentException" bc bs postX
def f_X7_append (S : PS) (a0 : Nat) (a1 : Int32) (bc bs : Nat) (post : Int32 → PS → Prop) (postX : String → PS → Prop) : Prop :=
  if a1 < 32 then
    f_X7_append_J12 post postX S bc bs
  else
    if a1 ≤ 126 then
      gR S a0 11 7 fun v3 => (
      isO S v3 9 (
      f_X5_length S v3 fun v5 S4 => (
      if v5 < 60 then
        gR S4 a0 11 7 fun v7 => (
        isO S4 v7 9 (
        ∃ mc9 ms9 : Nat, mc9 ≤ bc ∧ ms9 ≤ bs ∧ (f_X5_put S4 v7 a1 mc9 ms9 fun v10 S8 => (
        post v10 S8))))
      else
        tX S4 "java/lang/IllegalStateException" bc bs postX)))
    else
      f_X7_append_J12 post postX S bc bs
abbrev rm_X7_append (mc ms : Nat) : Room := { frames := 7, cells := mc, slots := ms, locals := 167 }
set_option maxHeartbeats 4000000 in
set_option maxRecDepth 100000 in
theorem c_X7_append (l : Launch) (D : va_G) (cy : Nat → ClassId) (G : p_GT) (hG : p_ok G) (hGC : ∀ (A : Nat → Prop) (U : State) (H : Heap), G A U H → gC A U H) (hst : l.stackTraces = false) (hGE : ∀ (A : Nat → Prop) (U : State) (H : Heap), G A U H → p_Ex A U H) (hGU : ∀ (A : Nat → Prop) (U : State) (H : Heap), G A U H → gU A U H) (S : PS) (a0 : Nat) (a1 : Int32) (mc ms : Nat) (post : Int32 → PS → Prop) (postX : String → PS → Prop) (sz : Nat) (hf : f_X7_append S a0 a1 mc ms post postX) : p_Xi l D cy G S sz yX7_append (Cond.code yX7_append cX7_append 2 (some .int) :: wG) (rm_X7_append mc ms) [.ref a0, .int a1] mc ms post postX := by
  refine q_startX hG (Qc := fun A => va_Qi post (p_Post D cy A) A) (XC := fun A => p_XC D cy A postX) mf_X7_append (Nat.le_of_ble_eq_true rfl) (own := RX7) rfl ?_
  intro p e s m below meth c A X hr hlk hnm htab ls hl hH
  have hx := X.1.1
  have hb := X.1.2.1
  replace hl : lv_has ls 2 [(0, .ref a0), (1, .int a1)] := hl
  have main : ∀ (H : Heap) (locs : List Loc) (ls : Array Slot) (cells slots bc bs : Nat), f_X7_append S a0 a1 bc bs post postX → p_H D cy S A s H locs → lv_has ls 2 [(0, .ref a0), (1, .int a1)] → cells + bc ≤ mc ∧ slots + bs ≤ ms → W p l e (rm_X7_append mc ms) s m [.ref a0, .int a1].toArray below meth c H locs cells slots (vx_MQ below (va_Qi post (p_Post D cy A) A) (p_XC D cy A postX) [.ref a0, .int a1].toArray s mc ms A) (F0 m 0 ls []) := by
    intro H locs ls cells slots bc bs hf hH hl hB
    have hJ12 : ∀ (S : PS) (bc bs : Nat), f_X7_append_J12 post postX S bc bs → ∀ (H : Heap) (locs : List Loc) (ls : Array Slot) (cells slots : Nat), p_H D cy S A s H locs → lv_has ls 2 [] → cells + bc ≤ mc ∧ slots + bs ≤ ms → W p l e (rm_X7_append mc ms) s m [.ref a0, .int a1].toArray below meth c H locs cells slots (vx_MQ below (va_Qi post (p_Post D cy A) A) (p_XC D cy A postX) [.ref a0, .int a1].toArray s mc ms A) (F0 m 12 ls []) := by
      intro S bc bs hf H locs ls cells slots hH hl hB
      exact q_throwW X hH hl hB rfl rfl hst (hGE _ _ _ X.2.2.2.2) hf tw_1134 tw_113 (text := "the code is not from 32 to 126") (List.mem_of_getElem? (i := 19) rfl) xa_IllegalArgumentException xg_IllegalArgumentException (by decide +kernel) (by decide +kernel) dX7_append_12 dX7_append_15 dX7_append_16 dX7_append_19 dX7_append_22 htab ⟨Nat.le_of_ble_eq_true rfl, Nat.le_of_ble_eq_true rfl⟩ (Nat.le_of_ble_eq_true rfl) hlk
    refine lv_iload_n hx hb dX7_append_0 rfl (lv_at hl 1 rfl) ?_
    refine lv_bipush (v := 32) hx hb dX7_append_1 (by decide) ?_
    refine lv_icmp_lt (tgt := 12) hx hb dX7_append_3 (by decide) (fun c1 => ?_) (fun c1 => ?_)
    · have hf := (if_pos c1).mp hf
      exact hJ12 S bc bs hf H locs ls cells slots hH (lv_sub hl [] rfl) hB
    · have hf := (if_neg c1).mp hf
      refine lv_iload_n hx hb dX7_append_6 rfl (lv_at hl 1 rfl) ?_
      refine lv_bipush (v := 126) hx hb dX7_append_7 (by decide) ?_
      refine lv_icmp_le (tgt := 23) hx hb dX7_append_9 (by decide) (fun c2 => ?_) (fun c2 => ?_)
      · have hf := (if_pos c2).mp hf
        refine lv_aload_n hx hb dX7_append_23 rfl (lv_at hl 0 rfl) ?_
        refine q_getR (T := TX7) (N := 12) X hH hf iw_X7 rfl (by decide) tw_326 (fun _ h => h) dX7_append_24 (fun v3 hf => ?_)
        obtain ⟨hb1, hb2, hf⟩ := hf
        refine q_backI0 X hH (q_runV [] [] X hH hl (c_X5_length l D cy G X.2.2.2.1 S v3 _ _ hf) mf_X5_length mv_X5_length tw_1369 ⟨Nat.le_of_ble_eq_true rfl, Nat.le_of_ble_eq_true rfl⟩ hb1 hb2 (T := TX5) (N := 7) rfl rfl (Nat.le_of_ble_eq_true rfl) dX7_append_27 ⟨Nat.le_trans (Nat.le_add_right _ _) hB.1, Nat.le_trans (Nat.le_add_right _ _) hB.2⟩) (fun v5 S4 hf H locs hH => ?_)
        refine lv_bipush (v := 60) hx hb dX7_append_30 (by decide) ?_
        refine lv_icmp_lt (tgt := 46) hx hb dX7_append_32 (by decide) (fun c6 => ?_) (fun c6 => ?_)
        · have hf := (if_pos c6).mp hf
          refine lv_aload_n hx hb dX7_append_46 rfl (lv_at hl 0 rfl) ?_
          refine q_getR (T := TX7) (N := 12) X hH hf iw_X7 rfl (by decide) tw_326 (fun _ h => h) dX7_append_47 (fun v7 hf => ?_)
          refine lv_iload_n hx hb dX7_append_50 rfl (lv_at hl 1 rfl) ?_
          obtain ⟨hb1, hb2, hf⟩ := hf
          obtain ⟨mc9, ms9, hm1, hs1, hf⟩ := hf
          refine q_backIB X hH hB hm1 hs1 (q_runV [.int a1] [] X hH hl (c_X5_put l D cy G X.2.2.2.1 hGC hGU S4 v7 a1 mc9 ms9 _ _ hf) mf_X5_put mv_X5_put tw_1375 ⟨Nat.le_of_ble_eq_true rfl, Nat.le_of_ble_eq_true rfl⟩ hb1 hb2 (T := TX5) (N := 7) rfl rfl (Nat.le_of_ble_eq_true rfl) dX7_append_51 ⟨Nat.le_trans (Nat.add_le_add_left hm1 _) hB.1, Nat.le_trans (Nat.add_le_add_left hs1 _) hB.2⟩) (fun v10 S8 hf H locs cells slots hH hB => ?_)
          exact vx_ret (q_retI X hH hr hlk hf (Nat.le_trans (Nat.le_add_right _ _) hB.1) (Nat.le_trans (Nat.le_add_right _ _) hB.2) dX7_append_54)
        · have hf := (if_neg c6).mp hf
          exact q_throwW X hH hl hB rfl rfl hst (hGE _ _ _ X.2.2.2.2) hf tw_1289 tw_115 (text := "the input is full") (List.mem_of_getElem? (i := 20) rfl) xa_IllegalStateException xg_IllegalStateException (by decide +kernel) (by decide +kernel) dX7_append_35 dX7_append_38 dX7_append_39 dX7_append_42 dX7_append_45 htab ⟨Nat.le_of_ble_eq_true rfl, Nat.le_of_ble_eq_true rfl⟩ (Nat.le_of_ble_eq_true rfl) hlk
      · have hf := (if_neg c2).mp hf
        exact hJ12 S bc bs hf H locs ls cells slots hH (lv_sub hl [] rfl) hB
  exact main s.heap [] ls 0 0 mc ms hf hH hl ⟨by omega, by omega⟩
-- X7_character
def f_X7_character_J15 (post : Int32 → PS → Prop) (postX : String → PS → Prop) (S : PS) (bc bs : Nat)  : Prop :=
  tX S "java/lang/IndexOutOfBoundsException" bc bs postX
def f_X7_character (S : PS) (a0 : Nat) (a1 : Int32) (bc bs : Nat) (post : Int32 → PS → Prop) (postX : String → PS → Prop) : Prop :=
  if a1 < 0 then
    f_X7_character_J15 post postX S bc bs
  else
    gR S a0 11 9 fun v2 => (
    isO S v2 1 (
    f_J4_length_8abf5 S v2 fun v4 S3 => (
    if a1 < v4 then
      gR S3 a0 11 9 fun v6 => (
      isO S3 v6 1 (
      f_J4_charAt_5068e S3 v6 a1 fun v8 S7 => (
      nZ .char v8 (post v8 S7))))
    else
      f_X7_character_J15 post postX S3 bc bs)))
abbrev rm_X7_character (mc ms : Nat) : Room := { frames := 6, cells := mc, slots := ms, locals := 90 }
set_option maxHeartbeats 4000000 in
set_option maxRecDepth 100000 in
theorem c_X7_character (l : Launch) (D : va_G) (cy : Nat → ClassId) (G : p_GT) (hG : p_ok G) (hst : l.stackTraces = false) (hGE : ∀ (A : Nat → Prop) (U : State) (H : Heap), G A U H → p_Ex A U H) (hGF : ∀ (A : Nat → Prop) (U : State) (H : Heap), G A U H → gF A U H) (S : PS) (a0 : Nat) (a1 : Int32) (mc ms : Nat) (post : Int32 → PS → Prop) (postX : String → PS → Prop) (sz : Nat) (hf : f_X7_character S a0 a1 mc ms post postX) : p_Xi l D cy G S sz yX7_character (Cond.code yX7_character cX7_character 2 (some .char) :: wG) (rm_X7_character mc ms) [.ref a0, .int a1] mc ms post postX := by
  refine q_startX hG (Qc := fun A => va_Qi post (p_Post D cy A) A) (XC := fun A => p_XC D cy A postX) mf_X7_character (Nat.le_of_ble_eq_true rfl) (own := RX7) rfl ?_
  intro p e s m below meth c A X hr hlk hnm htab ls hl hH
  have hx := X.1.1
  have hb := X.1.2.1
  replace hl : lv_has ls 2 [(0, .ref a0), (1, .int a1)] := hl
  have main : ∀ (H : Heap) (locs : List Loc) (ls : Array Slot) (cells slots bc bs : Nat), f_X7_character S a0 a1 bc bs post postX → p_H D cy S A s H locs → lv_has ls 2 [(0, .ref a0), (1, .int a1)] → cells + bc ≤ mc ∧ slots + bs ≤ ms → W p l e (rm_X7_character mc ms) s m [.ref a0, .int a1].toArray below meth c H locs cells slots (vx_MQ below (va_Qi post (p_Post D cy A) A) (p_XC D cy A postX) [.ref a0, .int a1].toArray s mc ms A) (F0 m 0 ls []) := by
    intro H locs ls cells slots bc bs hf hH hl hB
    have hJ15 : ∀ (S : PS) (bc bs : Nat), f_X7_character_J15 post postX S bc bs → ∀ (H : Heap) (locs : List Loc) (ls : Array Slot) (cells slots : Nat), p_H D cy S A s H locs → lv_has ls 2 [] → cells + bc ≤ mc ∧ slots + bs ≤ ms → W p l e (rm_X7_character mc ms) s m [.ref a0, .int a1].toArray below meth c H locs cells slots (vx_MQ below (va_Qi post (p_Post D cy A) A) (p_XC D cy A postX) [.ref a0, .int a1].toArray s mc ms A) (F0 m 15 ls []) := by
      intro S bc bs hf H locs ls cells slots hH hl hB
      exact q_throwW X hH hl hB rfl rfl hst (hGE _ _ _ X.2.2.2.2) hf tw_1106 tw_111 (text := "there is no such index") (List.mem_of_getElem? (i := 25) rfl) xa_IndexOutOfBoundsException xg_IndexOutOfBoundsException (by decide +kernel) (by decide +kernel) dX7_character_15 dX7_character_18 dX7_character_19 dX7_character_22 dX7_character_25 htab ⟨Nat.le_of_ble_eq_true rfl, Nat.le_of_ble_eq_true rfl⟩ (Nat.le_of_ble_eq_true rfl) hlk
    refine lv_iload_n hx hb dX7_character_0 rfl (lv_at hl 1 rfl) ?_
    refine lv_if_lt (tgt := 15) hx hb dX7_character_1 (by decide) (fun c1 => ?_) (fun c1 => ?_)
    · have hf := (if_pos c1).mp hf
      exact hJ15 S bc bs hf H locs ls cells slots hH (lv_sub hl [] rfl) hB
    · have hf := (if_neg c1).mp hf
      refine lv_iload_n hx hb dX7_character_4 rfl (lv_at hl 1 rfl) ?_
      refine lv_aload_n hx hb dX7_character_5 rfl (lv_at hl 0 rfl) ?_
      refine q_getR (T := TX7) (N := 12) X hH hf iw_X7 rfl (by decide) tw_328 (fun _ h => h) dX7_character_6 (fun v2 hf => ?_)
      obtain ⟨hb1, hb2, hf⟩ := hf
      refine q_backI0 X hH (q_runV [] [.int a1] X hH hl (c_J4_length_8abf5 l D cy G X.2.2.2.1 S v2 _ _ hf) mf_J4_length_8abf5 mv_J4_length_8abf5 tw_907 ⟨Nat.le_of_ble_eq_true rfl, Nat.le_of_ble_eq_true rfl⟩ hb1 hb2 (T := TJ4) (N := 4) rfl rfl (Nat.le_of_ble_eq_true rfl) dX7_character_9 ⟨Nat.le_trans (Nat.le_add_right _ _) hB.1, Nat.le_trans (Nat.le_add_right _ _) hB.2⟩) (fun v4 S3 hf H locs hH => ?_)
      refine lv_icmp_lt (tgt := 26) hx hb dX7_character_12 (by decide) (fun c5 => ?_) (fun c5 => ?_)
      · have hf := (if_pos c5).mp hf
        refine lv_aload_n hx hb dX7_character_26 rfl (lv_at hl 0 rfl) ?_
        refine q_getR (T := TX7) (N := 12) X hH hf iw_X7 rfl (by decide) tw_328 (fun _ h => h) dX7_character_27 (fun v6 hf => ?_)
        refine lv_iload_n hx hb dX7_character_30 rfl (lv_at hl 1 rfl) ?_
        obtain ⟨hb1, hb2, hf⟩ := hf
        refine q_backI0 X hH (q_runV [.int a1] [] X hH hl (c_J4_charAt_5068e l D cy G X.2.2.2.1 hGF S3 v6 a1 _ _ hf) mf_J4_charAt_5068e mv_J4_charAt_5068e tw_1518 ⟨Nat.le_of_ble_eq_true rfl, Nat.le_of_ble_eq_true rfl⟩ hb1 hb2 (T := TJ4) (N := 4) rfl rfl (Nat.le_of_ble_eq_true rfl) dX7_character_31 ⟨Nat.le_trans (Nat.le_add_right _ _) hB.1, Nat.le_trans (Nat.le_add_right _ _) hB.2⟩) (fun v8 S7 hf H locs hH => ?_)
        exact vx_ret (q_retZ X hH hr hlk hf (Nat.le_trans (Nat.le_add_right _ _) hB.1) (Nat.le_trans (Nat.le_add_right _ _) hB.2) dX7_character_34)
      · have hf := (if_neg c5).mp hf
        exact hJ15 S3 bc bs hf H locs ls cells slots hH (lv_sub hl [] rfl) hB
  exact main s.heap [] ls 0 0 mc ms hf hH hl ⟨by omega, by omega⟩
-- X7_refuses
def f_X7_refuses_J58 (post : Int32 → PS → Prop) (S : PS) (l0 : Nat) (t0 : Int32) (t1 : Nat) : Prop :=
  gR S l0 11 0 fun v1 => (
  gI S v1 10 1 fun v2 => (
  isO S t1 11 (
  f_X7_refusesIf S t1 t0 1 v2 fun v4 S3 => (
  nZ .boolean v4 (post v4 S3)))))
def f_X7_refuses_J133 (post : Int32 → PS → Prop) (S : PS) (l4 : Int32) (t0 : Int32) (t1 : Nat) : Prop :=
  isO S t1 11 (
  f_X7_refusesIf S t1 t0 5 l4 fun v2 S1 => (
  if v2 = 0 then
    nZ .boolean 0 (post 0 S1)
  else
    nZ .boolean 1 (post 1 S1)))
def f_X7_refuses_J104 (post : Int32 → PS → Prop) (S : PS) (l0 : Nat) (l2 : Int32) (l3 : Int32) (l4 : Int32) (t0 : Int32) (t1 : Nat) : Prop :=
  isO S t1 11 (
  f_X7_refusesIf S t1 t0 4 l4 fun v2 S1 => (
  if v2 = 0 then
    gR S1 l0 11 0 fun v4 => (
    isO S1 v4 10 (
    f_X6_tie S1 v4 l2 l3 fun v6 S5 => (
    if v6 = l4 then
      f_X7_refuses_J133 post S5 l4 1 l0
    else
      f_X7_refuses_J133 post S5 l4 0 l0)))
  else
    nZ .boolean 1 (post 1 S1)))
def f_X7_refuses_J99 (post : Int32 → PS → Prop) (S : PS) (l0 : Nat) (l2 : Int32) (l3 : Int32) (l4 : Int32) (t0 : Nat) : Prop :=
  f_X7_refuses_J104 post S l0 l2 l3 l4 1 t0
def f_X7_refuses_J165 (post : Int32 → PS → Prop) (S : PS) (l0 : Nat) (l2 : Int32) (l3 : Int32) (t0 : Int32) : Prop :=
  isO S l0 11 (
  f_X7_refusesPair S l0 l2 l3 fun v2 S1 => (
  if v2 = 0 then
    gR S1 l0 11 0 fun v4 => (
    isO S1 v4 10 (
    f_X6_bondCount S1 v4 fun v6 S5 => (
    isO S5 l0 11 (
    f_X7_refusesIf S5 l0 t0 6 v6 fun v8 S7 => (
    if v8 = 0 then
      nZ .boolean 0 (post 0 S7)
    else
      nZ .boolean 1 (post 1 S7))))))
  else
    nZ .boolean 1 (post 1 S1)))
def f_X7_refuses_J256 (post : Int32 → PS → Prop) (S : PS) (l3 : Int32) (t0 : Int32) (t1 : Nat) : Prop :=
  isO S t1 11 (
  f_X7_refusesIf S t1 t0 5 l3 fun v2 S1 => (
  if v2 = 0 then
    nZ .boolean 0 (post 0 S1)
  else
    nZ .boolean 1 (post 1 S1)))
def f_X7_refuses_J230 (post : Int32 → PS → Prop) (S : PS) (l0 : Nat) (l2 : Int32) (l3 : Int32) (t0 : Int32) (t1 : Nat) : Prop :=
  isO S t1 11 (
  f_X7_refusesIf S t1 t0 4 l3 fun v2 S1 => (
  if v2 = 0 then
    gR S1 l0 11 0 fun v4 => (
    isO S1 v4 10 (
    f_X6_sideOf S1 v4 l2 fun v6 S5 => (
    if v6 = l3 then
      f_X7_refuses_J256 post S5 l3 1 l0
    else
      f_X7_refuses_J256 post S5 l3 0 l0)))
  else
    nZ .boolean 1 (post 1 S1)))
def f_X7_refuses_J229 (post : Int32 → PS → Prop) (S : PS) (l0 : Nat) (l2 : Int32) (l3 : Int32) (t0 : Nat) : Prop :=
  f_X7_refuses_J230 post S l0 l2 l3 0 t0
def f_X7_refuses (S : PS) (a0 : Nat) (a1 : Int32) (a2 : Int32) (a3 : Int32) (a4 : Int32) (post : Int32 → PS → Prop) : Prop :=
  if a1 = 0 then
    gR S a0 11 0 fun v2 => (
    gI S v2 10 1 fun v3 => (
    if v3 < 9 then
      f_X7_refuses_J58 post S a0 0 a0
    else
      f_X7_refuses_J58 post S a0 1 a0))
  else
  if a1 = 1 then
    isO S a0 11 (
    f_X7_refusesHousehold S a0 a2 fun v7 S6 => (
    nZ .boolean v7 (post v7 S6)))
  else
  if a1 = 2 then
    isO S a0 11 (
    f_X7_refusesPair S a0 a2 a3 fun v10 S9 => (
    if v10 = 0 then
      if a4 < 1 then
        f_X7_refuses_J99 post S9 a0 a2 a3 a4 a0
      else
        if a4 ≤ 99 then
          f_X7_refuses_J104 post S9 a0 a2 a3 a4 0 a0
        else
          f_X7_refuses_J99 post S9 a0 a2 a3 a4 a0
    else
      nZ .boolean 1 (post 1 S9)))
  else
  if a1 = 3 then
    gR S a0 11 0 fun v15 => (
    isO S v15 10 (
    f_X6_tie S v15 a2 a3 fun v17 S16 => (
    if v17 = 0 then
      f_X7_refuses_J165 post S16 a0 a2 a3 1
    else
      f_X7_refuses_J165 post S16 a0 a2 a3 0)))
  else
  if a1 = 4 then
    isO S a0 11 (
    f_X7_refusesPair S a0 a2 a3 fun v21 S20 => (
    nZ .boolean v21 (post v21 S20)))
  else
  if a1 = 5 then
    isO S a0 11 (
    f_X7_refusesHousehold S a0 a2 fun v24 S23 => (
    if v24 = 0 then
      if a3 = 0 then
        f_X7_refuses_J229 post S23 a0 a2 a3 a0
      else
        if a3 = 1 then
          f_X7_refuses_J229 post S23 a0 a2 a3 a0
        else
          f_X7_refuses_J230 post S23 a0 a2 a3 1 a0
    else
      nZ .boolean 1 (post 1 S23)))
  else
    isO S a0 11 (
    f_X7_isTooSmall S a0 fun v29 S28 => (
    gR S28 a0 11 0 fun v30 => (
    gI S28 v30 10 1 fun v31 => (
    isO S28 a0 11 (
    f_X7_refusesIf S28 a0 v29 7 v31 fun v33 S32 => (
    nZ .boolean v33 (post v33 S32)))))))
abbrev rm_X7_refuses : Room := { frames := 4, cells := 0, slots := 0, locals := 88 }
set_option maxHeartbeats 4000000 in
set_option maxRecDepth 100000 in
theorem c_X7_refuses (l : Launch) (D : va_G) (cy : Nat → ClassId) (G : p_GT) (hG : p_ok G) (S : PS) (a0 : Nat) (a1 : Int32) (a2 : Int32) (a3 : Int32) (a4 : Int32) (post : Int32 → PS → Prop) (sz : Nat) (hf : f_X7_refuses S a0 a1 a2 a3 a4 post) : p_Mi l D cy G S sz yX7_refuses (Cond.code yX7_refuses cX7_refuses 6 (some .boolean) :: wG) rm_X7_refuses [.ref a0, .int a1, .int a2, .int a3, .int a4] 0 0 post := by
  refine q_start hG (Qc := fun A => va_Qi post (p_Post D cy A) A) mf_X7_refuses (Nat.le_of_ble_eq_true rfl) (own := RX7) rfl ?_
  intro p e s m below meth c A X hr hlk hnm ls hl hH
  have hx := X.1.1
  have hb := X.1.2.1
  replace hl : lv_has ls 6 [(0, .ref a0), (1, .int a1), (2, .int a2), (3, .int a3), (4, .int a4)] := hl
  obtain ⟨H, hHe⟩ : ∃ H, H = s.heap := ⟨_, rfl⟩
  obtain ⟨locs, hlo⟩ : ∃ locs : List Loc, locs = [] := ⟨_, rfl⟩
  rw [← hHe, ← hlo] at hH
  show W p l e rm_X7_refuses s m [.ref a0, .int a1, .int a2, .int a3, .int a4].toArray below meth c s.heap [] 0 0 _ _
  rw [← hHe, ← hlo]
  have hJ58 : ∀ (S : PS) (l0 : Nat) (t0 : Int32) (t1 : Nat), f_X7_refuses_J58 post S l0 t0 t1 → ∀ (H : Heap) (locs : List Loc) (ls : Array Slot), p_H D cy S A s H locs → lv_has ls 6 [(0, .ref l0)] → W p l e rm_X7_refuses s m [.ref a0, .int a1, .int a2, .int a3, .int a4].toArray below meth c H locs 0 0 (MQ below (va_Qi post (p_Post D cy A) A) [.ref a0, .int a1, .int a2, .int a3, .int a4].toArray s 0 0 A) (F0 m 58 ls [.int t0, .ref t1]) := by
    intro S l0 t0 t1 hf H locs ls hH hl
    refine lv_iconst (v := 1) hx hb dX7_refuses_58 (by decide) ?_
    refine lv_aload_n hx hb dX7_refuses_59 rfl (lv_at hl 0 rfl) ?_
    refine q_getR (T := TX7) (N := 12) X hH hf iw_X7 rfl (by decide) tw_319 (fun _ h => h) dX7_refuses_60 (fun v1 hf => ?_)
    refine q_getIN (T := TX6) (N := 6) X hH hf iw_X6 rfl (by decide) (List.mem_of_getElem? (i := 0) rfl) (fun _ h => h) dX7_refuses_63 (fun v2 hf => ?_)
    obtain ⟨hb1, hb2, hf⟩ := hf
    refine q_backI0 X hH (q_runV [.int t0, .int 1, .int v2] [] X hH hl (c_X7_refusesIf l D cy G X.2.2.2.1 S t1 t0 1 v2 _ _ hf) mf_X7_refusesIf mv_X7_refusesIf tw_961 ⟨Nat.le_of_ble_eq_true rfl, Nat.le_of_ble_eq_true rfl⟩ hb1 hb2 (T := TX7) (N := 12) rfl rfl (Nat.le_of_ble_eq_true rfl) dX7_refuses_66 ⟨Nat.le_of_ble_eq_true rfl, Nat.le_of_ble_eq_true rfl⟩) (fun v4 S3 hf H locs hH => ?_)
    exact q_retZ X hH hr hlk hf (Nat.zero_le _) (Nat.zero_le _) dX7_refuses_69
  have hJ104 : ∀ (S : PS) (l0 : Nat) (l2 : Int32) (l3 : Int32) (l4 : Int32) (t0 : Int32) (t1 : Nat), f_X7_refuses_J104 post S l0 l2 l3 l4 t0 t1 → ∀ (H : Heap) (locs : List Loc) (ls : Array Slot), p_H D cy S A s H locs → lv_has ls 6 [(0, .ref l0), (2, .int l2), (3, .int l3), (4, .int l4)] → W p l e rm_X7_refuses s m [.ref a0, .int a1, .int a2, .int a3, .int a4].toArray below meth c H locs 0 0 (MQ below (va_Qi post (p_Post D cy A) A) [.ref a0, .int a1, .int a2, .int a3, .int a4].toArray s 0 0 A) (F0 m 104 ls [.int t0, .ref t1]) := by
    intro S l0 l2 l3 l4 t0 t1 hf H locs ls hH hl
    have hJ133 : ∀ (S : PS) (l4 : Int32) (t0 : Int32) (t1 : Nat), f_X7_refuses_J133 post S l4 t0 t1 → ∀ (H : Heap) (locs : List Loc) (ls : Array Slot), p_H D cy S A s H locs → lv_has ls 6 [(4, .int l4)] → W p l e rm_X7_refuses s m [.ref a0, .int a1, .int a2, .int a3, .int a4].toArray below meth c H locs 0 0 (MQ below (va_Qi post (p_Post D cy A) A) [.ref a0, .int a1, .int a2, .int a3, .int a4].toArray s 0 0 A) (F0 m 133 ls [.int t0, .ref t1]) := by
      intro S l4 t0 t1 hf H locs ls hH hl
      refine lv_iconst (v := 5) hx hb dX7_refuses_133 (by decide) ?_
      refine lv_iload hx hb dX7_refuses_134 (lv_at hl 0 rfl) ?_
      obtain ⟨hb1, hb2, hf⟩ := hf
      refine q_backI0 X hH (q_runV [.int t0, .int 5, .int l4] [] X hH hl (c_X7_refusesIf l D cy G X.2.2.2.1 S t1 t0 5 l4 _ _ hf) mf_X7_refusesIf mv_X7_refusesIf tw_961 ⟨Nat.le_of_ble_eq_true rfl, Nat.le_of_ble_eq_true rfl⟩ hb1 hb2 (T := TX7) (N := 12) rfl rfl (Nat.le_of_ble_eq_true rfl) dX7_refuses_136 ⟨Nat.le_of_ble_eq_true rfl, Nat.le_of_ble_eq_true rfl⟩) (fun v2 S1 hf H locs hH => ?_)
      refine lv_if_eq (tgt := 146) hx hb dX7_refuses_139 (by decide) (fun c3 => ?_) (fun c3 => ?_)
      · have hf := (if_pos c3).mp hf
        refine lv_iconst (v := 0) hx hb dX7_refuses_146 (by decide) ?_
        exact q_retZ X hH hr hlk hf (Nat.zero_le _) (Nat.zero_le _) dX7_refuses_147
      · have hf := (if_neg c3).mp hf
        refine lv_iconst (v := 1) hx hb dX7_refuses_142 (by decide) ?_
        refine lv_goto (tgt := 147) hx hb dX7_refuses_143 (by decide) ?_
        exact q_retZ X hH hr hlk hf (Nat.zero_le _) (Nat.zero_le _) dX7_refuses_147
    refine lv_iconst (v := 4) hx hb dX7_refuses_104 (by decide) ?_
    refine lv_iload hx hb dX7_refuses_105 (lv_at hl 3 rfl) ?_
    obtain ⟨hb1, hb2, hf⟩ := hf
    refine q_backI0 X hH (q_runV [.int t0, .int 4, .int l4] [] X hH hl (c_X7_refusesIf l D cy G X.2.2.2.1 S t1 t0 4 l4 _ _ hf) mf_X7_refusesIf mv_X7_refusesIf tw_961 ⟨Nat.le_of_ble_eq_true rfl, Nat.le_of_ble_eq_true rfl⟩ hb1 hb2 (T := TX7) (N := 12) rfl rfl (Nat.le_of_ble_eq_true rfl) dX7_refuses_107 ⟨Nat.le_of_ble_eq_true rfl, Nat.le_of_ble_eq_true rfl⟩) (fun v2 S1 hf H locs hH => ?_)
    refine lv_if_ne (tgt := 142) hx hb dX7_refuses_110 (by decide) (fun c3 => ?_) (fun c3 => ?_)
    · have hf := (if_neg c3).mp hf
      refine lv_iconst (v := 1) hx hb dX7_refuses_142 (by decide) ?_
      refine lv_goto (tgt := 147) hx hb dX7_refuses_143 (by decide) ?_
      exact q_retZ X hH hr hlk hf (Nat.zero_le _) (Nat.zero_le _) dX7_refuses_147
    · have hf := (if_pos c3).mp hf
      refine lv_aload_n hx hb dX7_refuses_113 rfl (lv_at hl 0 rfl) ?_
      refine lv_aload_n hx hb dX7_refuses_114 rfl (lv_at hl 0 rfl) ?_
      refine q_getR (T := TX7) (N := 12) X hH hf iw_X7 rfl (by decide) tw_319 (fun _ h => h) dX7_refuses_115 (fun v4 hf => ?_)
      refine lv_iload_n hx hb dX7_refuses_118 rfl (lv_at hl 1 rfl) ?_
      refine lv_iload_n hx hb dX7_refuses_119 rfl (lv_at hl 2 rfl) ?_
      obtain ⟨hb1, hb2, hf⟩ := hf
      refine q_backI0 X hH (q_runV [.int l2, .int l3] [.ref l0] X hH hl (c_X6_tie l D cy G X.2.2.2.1 S1 v4 l2 l3 _ _ hf) mf_X6_tie mv_X6_tie tw_902 ⟨Nat.le_of_ble_eq_true rfl, Nat.le_of_ble_eq_true rfl⟩ hb1 hb2 (T := TX6) (N := 6) rfl rfl (Nat.le_of_ble_eq_true rfl) dX7_refuses_120 ⟨Nat.le_of_ble_eq_true rfl, Nat.le_of_ble_eq_true rfl⟩) (fun v6 S5 hf H locs hH => ?_)
      refine lv_iload hx hb dX7_refuses_123 (lv_at hl 3 rfl) ?_
      refine lv_icmp_ne (tgt := 132) hx hb dX7_refuses_125 (by decide) (fun c7 => ?_) (fun c7 => ?_)
      · have hf := (if_neg c7).mp hf
        refine lv_iconst (v := 0) hx hb dX7_refuses_132 (by decide) ?_
        exact hJ133 S5 l4 0 l0 hf H locs ls hH (lv_sub hl [3] rfl)
      · have hf := (if_pos c7).mp hf
        refine lv_iconst (v := 1) hx hb dX7_refuses_128 (by decide) ?_
        refine lv_goto (tgt := 133) hx hb dX7_refuses_129 (by decide) ?_
        exact hJ133 S5 l4 1 l0 hf H locs ls hH (lv_sub hl [3] rfl)
  have hJ99 : ∀ (S : PS) (l0 : Nat) (l2 : Int32) (l3 : Int32) (l4 : Int32) (t0 : Nat), f_X7_refuses_J99 post S l0 l2 l3 l4 t0 → ∀ (H : Heap) (locs : List Loc) (ls : Array Slot), p_H D cy S A s H locs → lv_has ls 6 [(0, .ref l0), (2, .int l2), (3, .int l3), (4, .int l4)] → W p l e rm_X7_refuses s m [.ref a0, .int a1, .int a2, .int a3, .int a4].toArray below meth c H locs 0 0 (MQ below (va_Qi post (p_Post D cy A) A) [.ref a0, .int a1, .int a2, .int a3, .int a4].toArray s 0 0 A) (F0 m 99 ls [.ref t0]) := by
    intro S l0 l2 l3 l4 t0 hf H locs ls hH hl
    refine lv_iconst (v := 1) hx hb dX7_refuses_99 (by decide) ?_
    refine lv_goto (tgt := 104) hx hb dX7_refuses_100 (by decide) ?_
    exact hJ104 S l0 l2 l3 l4 1 t0 hf H locs ls hH hl
  have hJ165 : ∀ (S : PS) (l0 : Nat) (l2 : Int32) (l3 : Int32) (t0 : Int32), f_X7_refuses_J165 post S l0 l2 l3 t0 → ∀ (H : Heap) (locs : List Loc) (ls : Array Slot), p_H D cy S A s H locs → lv_has ls 6 [(0, .ref l0), (2, .int l2), (3, .int l3)] → W p l e rm_X7_refuses s m [.ref a0, .int a1, .int a2, .int a3, .int a4].toArray below meth c H locs 0 0 (MQ below (va_Qi post (p_Post D cy A) A) [.ref a0, .int a1, .int a2, .int a3, .int a4].toArray s 0 0 A) (F0 m 165 ls [.int t0]) := by
    intro S l0 l2 l3 t0 hf H locs ls hH hl
    refine lv_istore (lv' := [(5, .int t0), (0, .ref l0), (2, .int l2), (3, .int l3)]) hx hb dX7_refuses_165 hl (by decide) rfl (fun ls hl => ?_)
    refine lv_aload_n hx hb dX7_refuses_167 rfl (lv_at hl 1 rfl) ?_
    refine lv_iload_n hx hb dX7_refuses_168 rfl (lv_at hl 2 rfl) ?_
    refine lv_iload_n hx hb dX7_refuses_169 rfl (lv_at hl 3 rfl) ?_
    obtain ⟨hb1, hb2, hf⟩ := hf
    refine q_backI0 X hH (q_runV [.int l2, .int l3] [] X hH hl (c_X7_refusesPair l D cy G X.2.2.2.1 S l0 l2 l3 _ _ hf) mf_X7_refusesPair mv_X7_refusesPair tw_974 ⟨Nat.le_of_ble_eq_true rfl, Nat.le_of_ble_eq_true rfl⟩ hb1 hb2 (T := TX7) (N := 12) rfl rfl (Nat.le_of_ble_eq_true rfl) dX7_refuses_170 ⟨Nat.le_of_ble_eq_true rfl, Nat.le_of_ble_eq_true rfl⟩) (fun v2 S1 hf H locs hH => ?_)
    refine lv_if_ne (tgt := 194) hx hb dX7_refuses_173 (by decide) (fun c3 => ?_) (fun c3 => ?_)
    · have hf := (if_neg c3).mp hf
      refine lv_iconst (v := 1) hx hb dX7_refuses_194 (by decide) ?_
      refine lv_goto (tgt := 199) hx hb dX7_refuses_195 (by decide) ?_
      exact q_retZ X hH hr hlk hf (Nat.zero_le _) (Nat.zero_le _) dX7_refuses_199
    · have hf := (if_pos c3).mp hf
      refine lv_aload_n hx hb dX7_refuses_176 rfl (lv_at hl 1 rfl) ?_
      refine lv_iload hx hb dX7_refuses_177 (lv_at hl 0 rfl) ?_
      refine lv_bipush (v := 6) hx hb dX7_refuses_179 (by decide) ?_
      refine lv_aload_n hx hb dX7_refuses_181 rfl (lv_at hl 1 rfl) ?_
      refine q_getR (T := TX7) (N := 12) X hH hf iw_X7 rfl (by decide) tw_319 (fun _ h => h) dX7_refuses_182 (fun v4 hf => ?_)
      obtain ⟨hb1, hb2, hf⟩ := hf
      refine q_backI0 X hH (q_runV [] [.int 6, .int t0, .ref l0] X hH hl (c_X6_bondCount l D cy G X.2.2.2.1 S1 v4 _ _ hf) mf_X6_bondCount mv_X6_bondCount tw_978 ⟨Nat.le_of_ble_eq_true rfl, Nat.le_of_ble_eq_true rfl⟩ hb1 hb2 (T := TX6) (N := 6) rfl rfl (Nat.le_of_ble_eq_true rfl) dX7_refuses_185 ⟨Nat.le_of_ble_eq_true rfl, Nat.le_of_ble_eq_true rfl⟩) (fun v6 S5 hf H locs hH => ?_)
      obtain ⟨hb1, hb2, hf⟩ := hf
      refine q_backI0 X hH (q_runV [.int t0, .int 6, .int v6] [] X hH hl (c_X7_refusesIf l D cy G X.2.2.2.1 S5 l0 t0 6 v6 _ _ hf) mf_X7_refusesIf mv_X7_refusesIf tw_961 ⟨Nat.le_of_ble_eq_true rfl, Nat.le_of_ble_eq_true rfl⟩ hb1 hb2 (T := TX7) (N := 12) rfl rfl (Nat.le_of_ble_eq_true rfl) dX7_refuses_188 ⟨Nat.le_of_ble_eq_true rfl, Nat.le_of_ble_eq_true rfl⟩) (fun v8 S7 hf H locs hH => ?_)
      refine lv_if_eq (tgt := 198) hx hb dX7_refuses_191 (by decide) (fun c9 => ?_) (fun c9 => ?_)
      · have hf := (if_pos c9).mp hf
        refine lv_iconst (v := 0) hx hb dX7_refuses_198 (by decide) ?_
        exact q_retZ X hH hr hlk hf (Nat.zero_le _) (Nat.zero_le _) dX7_refuses_199
      · have hf := (if_neg c9).mp hf
        refine lv_iconst (v := 1) hx hb dX7_refuses_194 (by decide) ?_
        refine lv_goto (tgt := 199) hx hb dX7_refuses_195 (by decide) ?_
        exact q_retZ X hH hr hlk hf (Nat.zero_le _) (Nat.zero_le _) dX7_refuses_199
  have hJ230 : ∀ (S : PS) (l0 : Nat) (l2 : Int32) (l3 : Int32) (t0 : Int32) (t1 : Nat), f_X7_refuses_J230 post S l0 l2 l3 t0 t1 → ∀ (H : Heap) (locs : List Loc) (ls : Array Slot), p_H D cy S A s H locs → lv_has ls 6 [(0, .ref l0), (2, .int l2), (3, .int l3)] → W p l e rm_X7_refuses s m [.ref a0, .int a1, .int a2, .int a3, .int a4].toArray below meth c H locs 0 0 (MQ below (va_Qi post (p_Post D cy A) A) [.ref a0, .int a1, .int a2, .int a3, .int a4].toArray s 0 0 A) (F0 m 230 ls [.int t0, .ref t1]) := by
    intro S l0 l2 l3 t0 t1 hf H locs ls hH hl
    have hJ256 : ∀ (S : PS) (l3 : Int32) (t0 : Int32) (t1 : Nat), f_X7_refuses_J256 post S l3 t0 t1 → ∀ (H : Heap) (locs : List Loc) (ls : Array Slot), p_H D cy S A s H locs → lv_has ls 6 [(3, .int l3)] → W p l e rm_X7_refuses s m [.ref a0, .int a1, .int a2, .int a3, .int a4].toArray below meth c H locs 0 0 (MQ below (va_Qi post (p_Post D cy A) A) [.ref a0, .int a1, .int a2, .int a3, .int a4].toArray s 0 0 A) (F0 m 256 ls [.int t0, .ref t1]) := by
      intro S l3 t0 t1 hf H locs ls hH hl
      refine lv_iconst (v := 5) hx hb dX7_refuses_256 (by decide) ?_
      refine lv_iload_n hx hb dX7_refuses_257 rfl (lv_at hl 0 rfl) ?_
      obtain ⟨hb1, hb2, hf⟩ := hf
      refine q_backI0 X hH (q_runV [.int t0, .int 5, .int l3] [] X hH hl (c_X7_refusesIf l D cy G X.2.2.2.1 S t1 t0 5 l3 _ _ hf) mf_X7_refusesIf mv_X7_refusesIf tw_961 ⟨Nat.le_of_ble_eq_true rfl, Nat.le_of_ble_eq_true rfl⟩ hb1 hb2 (T := TX7) (N := 12) rfl rfl (Nat.le_of_ble_eq_true rfl) dX7_refuses_258 ⟨Nat.le_of_ble_eq_true rfl, Nat.le_of_ble_eq_true rfl⟩) (fun v2 S1 hf H locs hH => ?_)
      refine lv_if_eq (tgt := 268) hx hb dX7_refuses_261 (by decide) (fun c3 => ?_) (fun c3 => ?_)
      · have hf := (if_pos c3).mp hf
        refine lv_iconst (v := 0) hx hb dX7_refuses_268 (by decide) ?_
        exact q_retZ X hH hr hlk hf (Nat.zero_le _) (Nat.zero_le _) dX7_refuses_269
      · have hf := (if_neg c3).mp hf
        refine lv_iconst (v := 1) hx hb dX7_refuses_264 (by decide) ?_
        refine lv_goto (tgt := 269) hx hb dX7_refuses_265 (by decide) ?_
        exact q_retZ X hH hr hlk hf (Nat.zero_le _) (Nat.zero_le _) dX7_refuses_269
    refine lv_iconst (v := 4) hx hb dX7_refuses_230 (by decide) ?_
    refine lv_iload_n hx hb dX7_refuses_231 rfl (lv_at hl 2 rfl) ?_
    obtain ⟨hb1, hb2, hf⟩ := hf
    refine q_backI0 X hH (q_runV [.int t0, .int 4, .int l3] [] X hH hl (c_X7_refusesIf l D cy G X.2.2.2.1 S t1 t0 4 l3 _ _ hf) mf_X7_refusesIf mv_X7_refusesIf tw_961 ⟨Nat.le_of_ble_eq_true rfl, Nat.le_of_ble_eq_true rfl⟩ hb1 hb2 (T := TX7) (N := 12) rfl rfl (Nat.le_of_ble_eq_true rfl) dX7_refuses_232 ⟨Nat.le_of_ble_eq_true rfl, Nat.le_of_ble_eq_true rfl⟩) (fun v2 S1 hf H locs hH => ?_)
    refine lv_if_ne (tgt := 264) hx hb dX7_refuses_235 (by decide) (fun c3 => ?_) (fun c3 => ?_)
    · have hf := (if_neg c3).mp hf
      refine lv_iconst (v := 1) hx hb dX7_refuses_264 (by decide) ?_
      refine lv_goto (tgt := 269) hx hb dX7_refuses_265 (by decide) ?_
      exact q_retZ X hH hr hlk hf (Nat.zero_le _) (Nat.zero_le _) dX7_refuses_269
    · have hf := (if_pos c3).mp hf
      refine lv_aload_n hx hb dX7_refuses_238 rfl (lv_at hl 0 rfl) ?_
      refine lv_aload_n hx hb dX7_refuses_239 rfl (lv_at hl 0 rfl) ?_
      refine q_getR (T := TX7) (N := 12) X hH hf iw_X7 rfl (by decide) tw_319 (fun _ h => h) dX7_refuses_240 (fun v4 hf => ?_)
      refine lv_iload_n hx hb dX7_refuses_243 rfl (lv_at hl 1 rfl) ?_
      obtain ⟨hb1, hb2, hf⟩ := hf
      refine q_backI0 X hH (q_runV [.int l2] [.ref l0] X hH hl (c_X6_sideOf l D cy G X.2.2.2.1 S1 v4 l2 _ _ hf) mf_X6_sideOf mv_X6_sideOf tw_986 ⟨Nat.le_of_ble_eq_true rfl, Nat.le_of_ble_eq_true rfl⟩ hb1 hb2 (T := TX6) (N := 6) rfl rfl (Nat.le_of_ble_eq_true rfl) dX7_refuses_244 ⟨Nat.le_of_ble_eq_true rfl, Nat.le_of_ble_eq_true rfl⟩) (fun v6 S5 hf H locs hH => ?_)
      refine lv_iload_n hx hb dX7_refuses_247 rfl (lv_at hl 2 rfl) ?_
      refine lv_icmp_ne (tgt := 255) hx hb dX7_refuses_248 (by decide) (fun c7 => ?_) (fun c7 => ?_)
      · have hf := (if_neg c7).mp hf
        refine lv_iconst (v := 0) hx hb dX7_refuses_255 (by decide) ?_
        exact hJ256 S5 l3 0 l0 hf H locs ls hH (lv_sub hl [2] rfl)
      · have hf := (if_pos c7).mp hf
        refine lv_iconst (v := 1) hx hb dX7_refuses_251 (by decide) ?_
        refine lv_goto (tgt := 256) hx hb dX7_refuses_252 (by decide) ?_
        exact hJ256 S5 l3 1 l0 hf H locs ls hH (lv_sub hl [2] rfl)
  have hJ229 : ∀ (S : PS) (l0 : Nat) (l2 : Int32) (l3 : Int32) (t0 : Nat), f_X7_refuses_J229 post S l0 l2 l3 t0 → ∀ (H : Heap) (locs : List Loc) (ls : Array Slot), p_H D cy S A s H locs → lv_has ls 6 [(0, .ref l0), (2, .int l2), (3, .int l3)] → W p l e rm_X7_refuses s m [.ref a0, .int a1, .int a2, .int a3, .int a4].toArray below meth c H locs 0 0 (MQ below (va_Qi post (p_Post D cy A) A) [.ref a0, .int a1, .int a2, .int a3, .int a4].toArray s 0 0 A) (F0 m 229 ls [.ref t0]) := by
    intro S l0 l2 l3 t0 hf H locs ls hH hl
    refine lv_iconst (v := 0) hx hb dX7_refuses_229 (by decide) ?_
    exact hJ230 S l0 l2 l3 0 t0 hf H locs ls hH hl
  refine lv_iload_n hx hb dX7_refuses_0 rfl (lv_at hl 1 rfl) ?_
  by_cases c1 : a1 = 0
  · have hf := (if_pos c1).mp hf
    refine lv_tableIn (off := 39) (tgt := 40) hx hb dX7_refuses_1 (by rw [c1]; decide) (by rw [c1]; decide) (by rw [c1]; rfl) (by decide) ?_
    refine lv_aload_n hx hb dX7_refuses_40 rfl (lv_at hl 0 rfl) ?_
    refine lv_aload_n hx hb dX7_refuses_41 rfl (lv_at hl 0 rfl) ?_
    refine q_getR (T := TX7) (N := 12) X hH hf iw_X7 rfl (by decide) tw_319 (fun _ h => h) dX7_refuses_42 (fun v2 hf => ?_)
    refine q_getIN (T := TX6) (N := 6) X hH hf iw_X6 rfl (by decide) (List.mem_of_getElem? (i := 0) rfl) (fun _ h => h) dX7_refuses_45 (fun v3 hf => ?_)
    refine lv_bipush (v := 9) hx hb dX7_refuses_48 (by decide) ?_
    refine lv_icmp_lt (tgt := 57) hx hb dX7_refuses_50 (by decide) (fun c4 => ?_) (fun c4 => ?_)
    · have hf := (if_pos c4).mp hf
      refine lv_iconst (v := 0) hx hb dX7_refuses_57 (by decide) ?_
      exact hJ58 S a0 0 a0 hf H locs ls hH (lv_sub hl [0] rfl)
    · have hf := (if_neg c4).mp hf
      refine lv_iconst (v := 1) hx hb dX7_refuses_53 (by decide) ?_
      refine lv_goto (tgt := 58) hx hb dX7_refuses_54 (by decide) ?_
      exact hJ58 S a0 1 a0 hf H locs ls hH (lv_sub hl [0] rfl)
  · have hf := (if_neg c1).mp hf
    by_cases c5 : a1 = 1
    · have hf := (if_pos c5).mp hf
      refine lv_tableIn (off := 69) (tgt := 70) hx hb dX7_refuses_1 (by rw [c5]; decide) (by rw [c5]; decide) (by rw [c5]; rfl) (by decide) ?_
      refine lv_aload_n hx hb dX7_refuses_70 rfl (lv_at hl 0 rfl) ?_
      refine lv_iload_n hx hb dX7_refuses_71 rfl (lv_at hl 2 rfl) ?_
      obtain ⟨hb1, hb2, hf⟩ := hf
      refine q_backI0 X hH (q_runV [.int a2] [] X hH hl (c_X7_refusesHousehold l D cy G X.2.2.2.1 S a0 a2 _ _ hf) mf_X7_refusesHousehold mv_X7_refusesHousehold tw_969 ⟨Nat.le_of_ble_eq_true rfl, Nat.le_of_ble_eq_true rfl⟩ hb1 hb2 (T := TX7) (N := 12) rfl rfl (Nat.le_of_ble_eq_true rfl) dX7_refuses_72 ⟨Nat.le_of_ble_eq_true rfl, Nat.le_of_ble_eq_true rfl⟩) (fun v7 S6 hf H locs hH => ?_)
      exact q_retZ X hH hr hlk hf (Nat.zero_le _) (Nat.zero_le _) dX7_refuses_75
    · have hf := (if_neg c5).mp hf
      by_cases c8 : a1 = 2
      · have hf := (if_pos c8).mp hf
        refine lv_tableIn (off := 75) (tgt := 76) hx hb dX7_refuses_1 (by rw [c8]; decide) (by rw [c8]; decide) (by rw [c8]; rfl) (by decide) ?_
        refine lv_aload_n hx hb dX7_refuses_76 rfl (lv_at hl 0 rfl) ?_
        refine lv_iload_n hx hb dX7_refuses_77 rfl (lv_at hl 2 rfl) ?_
        refine lv_iload_n hx hb dX7_refuses_78 rfl (lv_at hl 3 rfl) ?_
        obtain ⟨hb1, hb2, hf⟩ := hf
        refine q_backI0 X hH (q_runV [.int a2, .int a3] [] X hH hl (c_X7_refusesPair l D cy G X.2.2.2.1 S a0 a2 a3 _ _ hf) mf_X7_refusesPair mv_X7_refusesPair tw_974 ⟨Nat.le_of_ble_eq_true rfl, Nat.le_of_ble_eq_true rfl⟩ hb1 hb2 (T := TX7) (N := 12) rfl rfl (Nat.le_of_ble_eq_true rfl) dX7_refuses_79 ⟨Nat.le_of_ble_eq_true rfl, Nat.le_of_ble_eq_true rfl⟩) (fun v10 S9 hf H locs hH => ?_)
        refine lv_if_ne (tgt := 142) hx hb dX7_refuses_82 (by decide) (fun c11 => ?_) (fun c11 => ?_)
        · have hf := (if_neg c11).mp hf
          refine lv_iconst (v := 1) hx hb dX7_refuses_142 (by decide) ?_
          refine lv_goto (tgt := 147) hx hb dX7_refuses_143 (by decide) ?_
          exact q_retZ X hH hr hlk hf (Nat.zero_le _) (Nat.zero_le _) dX7_refuses_147
        · have hf := (if_pos c11).mp hf
          refine lv_aload_n hx hb dX7_refuses_85 rfl (lv_at hl 0 rfl) ?_
          refine lv_iload hx hb dX7_refuses_86 (lv_at hl 4 rfl) ?_
          refine lv_iconst (v := 1) hx hb dX7_refuses_88 (by decide) ?_
          refine lv_icmp_lt (tgt := 99) hx hb dX7_refuses_89 (by decide) (fun c12 => ?_) (fun c12 => ?_)
          · have hf := (if_pos c12).mp hf
            exact hJ99 S9 a0 a2 a3 a4 a0 hf H locs ls hH (lv_sub hl [0, 2, 3, 4] rfl)
          · have hf := (if_neg c12).mp hf
            refine lv_iload hx hb dX7_refuses_92 (lv_at hl 4 rfl) ?_
            refine lv_bipush (v := 99) hx hb dX7_refuses_94 (by decide) ?_
            refine lv_icmp_le (tgt := 103) hx hb dX7_refuses_96 (by decide) (fun c13 => ?_) (fun c13 => ?_)
            · have hf := (if_pos c13).mp hf
              refine lv_iconst (v := 0) hx hb dX7_refuses_103 (by decide) ?_
              exact hJ104 S9 a0 a2 a3 a4 0 a0 hf H locs ls hH (lv_sub hl [0, 2, 3, 4] rfl)
            · have hf := (if_neg c13).mp hf
              exact hJ99 S9 a0 a2 a3 a4 a0 hf H locs ls hH (lv_sub hl [0, 2, 3, 4] rfl)
      · have hf := (if_neg c8).mp hf
        by_cases c14 : a1 = 3
        · have hf := (if_pos c14).mp hf
          refine lv_tableIn (off := 147) (tgt := 148) hx hb dX7_refuses_1 (by rw [c14]; decide) (by rw [c14]; decide) (by rw [c14]; rfl) (by decide) ?_
          refine lv_aload_n hx hb dX7_refuses_148 rfl (lv_at hl 0 rfl) ?_
          refine q_getR (T := TX7) (N := 12) X hH hf iw_X7 rfl (by decide) tw_319 (fun _ h => h) dX7_refuses_149 (fun v15 hf => ?_)
          refine lv_iload_n hx hb dX7_refuses_152 rfl (lv_at hl 2 rfl) ?_
          refine lv_iload_n hx hb dX7_refuses_153 rfl (lv_at hl 3 rfl) ?_
          obtain ⟨hb1, hb2, hf⟩ := hf
          refine q_backI0 X hH (q_runV [.int a2, .int a3] [] X hH hl (c_X6_tie l D cy G X.2.2.2.1 S v15 a2 a3 _ _ hf) mf_X6_tie mv_X6_tie tw_902 ⟨Nat.le_of_ble_eq_true rfl, Nat.le_of_ble_eq_true rfl⟩ hb1 hb2 (T := TX6) (N := 6) rfl rfl (Nat.le_of_ble_eq_true rfl) dX7_refuses_154 ⟨Nat.le_of_ble_eq_true rfl, Nat.le_of_ble_eq_true rfl⟩) (fun v17 S16 hf H locs hH => ?_)
          refine lv_if_ne (tgt := 164) hx hb dX7_refuses_157 (by decide) (fun c18 => ?_) (fun c18 => ?_)
          · have hf := (if_neg c18).mp hf
            refine lv_iconst (v := 0) hx hb dX7_refuses_164 (by decide) ?_
            exact hJ165 S16 a0 a2 a3 0 hf H locs ls hH (lv_sub hl [0, 2, 3] rfl)
          · have hf := (if_pos c18).mp hf
            refine lv_iconst (v := 1) hx hb dX7_refuses_160 (by decide) ?_
            refine lv_goto (tgt := 165) hx hb dX7_refuses_161 (by decide) ?_
            exact hJ165 S16 a0 a2 a3 1 hf H locs ls hH (lv_sub hl [0, 2, 3] rfl)
        · have hf := (if_neg c14).mp hf
          by_cases c19 : a1 = 4
          · have hf := (if_pos c19).mp hf
            refine lv_tableIn (off := 199) (tgt := 200) hx hb dX7_refuses_1 (by rw [c19]; decide) (by rw [c19]; decide) (by rw [c19]; rfl) (by decide) ?_
            refine lv_aload_n hx hb dX7_refuses_200 rfl (lv_at hl 0 rfl) ?_
            refine lv_iload_n hx hb dX7_refuses_201 rfl (lv_at hl 2 rfl) ?_
            refine lv_iload_n hx hb dX7_refuses_202 rfl (lv_at hl 3 rfl) ?_
            obtain ⟨hb1, hb2, hf⟩ := hf
            refine q_backI0 X hH (q_runV [.int a2, .int a3] [] X hH hl (c_X7_refusesPair l D cy G X.2.2.2.1 S a0 a2 a3 _ _ hf) mf_X7_refusesPair mv_X7_refusesPair tw_974 ⟨Nat.le_of_ble_eq_true rfl, Nat.le_of_ble_eq_true rfl⟩ hb1 hb2 (T := TX7) (N := 12) rfl rfl (Nat.le_of_ble_eq_true rfl) dX7_refuses_203 ⟨Nat.le_of_ble_eq_true rfl, Nat.le_of_ble_eq_true rfl⟩) (fun v21 S20 hf H locs hH => ?_)
            exact q_retZ X hH hr hlk hf (Nat.zero_le _) (Nat.zero_le _) dX7_refuses_206
          · have hf := (if_neg c19).mp hf
            by_cases c22 : a1 = 5
            · have hf := (if_pos c22).mp hf
              refine lv_tableIn (off := 206) (tgt := 207) hx hb dX7_refuses_1 (by rw [c22]; decide) (by rw [c22]; decide) (by rw [c22]; rfl) (by decide) ?_
              refine lv_aload_n hx hb dX7_refuses_207 rfl (lv_at hl 0 rfl) ?_
              refine lv_iload_n hx hb dX7_refuses_208 rfl (lv_at hl 2 rfl) ?_
              obtain ⟨hb1, hb2, hf⟩ := hf
              refine q_backI0 X hH (q_runV [.int a2] [] X hH hl (c_X7_refusesHousehold l D cy G X.2.2.2.1 S a0 a2 _ _ hf) mf_X7_refusesHousehold mv_X7_refusesHousehold tw_969 ⟨Nat.le_of_ble_eq_true rfl, Nat.le_of_ble_eq_true rfl⟩ hb1 hb2 (T := TX7) (N := 12) rfl rfl (Nat.le_of_ble_eq_true rfl) dX7_refuses_209 ⟨Nat.le_of_ble_eq_true rfl, Nat.le_of_ble_eq_true rfl⟩) (fun v24 S23 hf H locs hH => ?_)
              refine lv_if_ne (tgt := 264) hx hb dX7_refuses_212 (by decide) (fun c25 => ?_) (fun c25 => ?_)
              · have hf := (if_neg c25).mp hf
                refine lv_iconst (v := 1) hx hb dX7_refuses_264 (by decide) ?_
                refine lv_goto (tgt := 269) hx hb dX7_refuses_265 (by decide) ?_
                exact q_retZ X hH hr hlk hf (Nat.zero_le _) (Nat.zero_le _) dX7_refuses_269
              · have hf := (if_pos c25).mp hf
                refine lv_aload_n hx hb dX7_refuses_215 rfl (lv_at hl 0 rfl) ?_
                refine lv_iload_n hx hb dX7_refuses_216 rfl (lv_at hl 3 rfl) ?_
                refine lv_if_eq (tgt := 229) hx hb dX7_refuses_217 (by decide) (fun c26 => ?_) (fun c26 => ?_)
                · have hf := (if_pos c26).mp hf
                  exact hJ229 S23 a0 a2 a3 a0 hf H locs ls hH (lv_sub hl [0, 2, 3] rfl)
                · have hf := (if_neg c26).mp hf
                  refine lv_iload_n hx hb dX7_refuses_220 rfl (lv_at hl 3 rfl) ?_
                  refine lv_iconst (v := 1) hx hb dX7_refuses_221 (by decide) ?_
                  refine lv_icmp_eq (tgt := 229) hx hb dX7_refuses_222 (by decide) (fun c27 => ?_) (fun c27 => ?_)
                  · have hf := (if_pos c27).mp hf
                    exact hJ229 S23 a0 a2 a3 a0 hf H locs ls hH (lv_sub hl [0, 2, 3] rfl)
                  · have hf := (if_neg c27).mp hf
                    refine lv_iconst (v := 1) hx hb dX7_refuses_225 (by decide) ?_
                    refine lv_goto (tgt := 230) hx hb dX7_refuses_226 (by decide) ?_
                    exact hJ230 S23 a0 a2 a3 1 a0 hf H locs ls hH (lv_sub hl [0, 2, 3] rfl)
            · have hf := (if_neg c22).mp hf
              refine lv_tableOut (tgt := 270) hx hb dX7_refuses_1 (by have z0 := lv_neT c1 (a := 0) rfl; have z1 := lv_neT c5 (a := 1) rfl; have z2 := lv_neT c8 (a := 2) rfl; have z3 := lv_neT c14 (a := 3) rfl; have z4 := lv_neT c19 (a := 4) rfl; have z5 := lv_neT c22 (a := 5) rfl; omega) (by decide) ?_
              refine lv_aload_n hx hb dX7_refuses_270 rfl (lv_at hl 0 rfl) ?_
              refine lv_aload_n hx hb dX7_refuses_271 rfl (lv_at hl 0 rfl) ?_
              obtain ⟨hb1, hb2, hf⟩ := hf
              refine q_backI0 X hH (q_runV [] [.ref a0] X hH hl (c_X7_isTooSmall l D cy G X.2.2.2.1 S a0 _ _ hf) mf_X7_isTooSmall mv_X7_isTooSmall tw_427 ⟨Nat.le_of_ble_eq_true rfl, Nat.le_of_ble_eq_true rfl⟩ hb1 hb2 (T := TX7) (N := 12) rfl rfl (Nat.le_of_ble_eq_true rfl) dX7_refuses_272 ⟨Nat.le_of_ble_eq_true rfl, Nat.le_of_ble_eq_true rfl⟩) (fun v29 S28 hf H locs hH => ?_)
              refine lv_bipush (v := 7) hx hb dX7_refuses_275 (by decide) ?_
              refine lv_aload_n hx hb dX7_refuses_277 rfl (lv_at hl 0 rfl) ?_
              refine q_getR (T := TX7) (N := 12) X hH hf iw_X7 rfl (by decide) tw_319 (fun _ h => h) dX7_refuses_278 (fun v30 hf => ?_)
              refine q_getIN (T := TX6) (N := 6) X hH hf iw_X6 rfl (by decide) (List.mem_of_getElem? (i := 0) rfl) (fun _ h => h) dX7_refuses_281 (fun v31 hf => ?_)
              obtain ⟨hb1, hb2, hf⟩ := hf
              refine q_backI0 X hH (q_runV [.int v29, .int 7, .int v31] [] X hH hl (c_X7_refusesIf l D cy G X.2.2.2.1 S28 a0 v29 7 v31 _ _ hf) mf_X7_refusesIf mv_X7_refusesIf tw_961 ⟨Nat.le_of_ble_eq_true rfl, Nat.le_of_ble_eq_true rfl⟩ hb1 hb2 (T := TX7) (N := 12) rfl rfl (Nat.le_of_ble_eq_true rfl) dX7_refuses_284 ⟨Nat.le_of_ble_eq_true rfl, Nat.le_of_ble_eq_true rfl⟩) (fun v33 S32 hf H locs hH => ?_)
              exact q_retZ X hH hr hlk hf (Nat.zero_le _) (Nat.zero_le _) dX7_refuses_287
-- X7_done
def f_X7_done (S : PS) (a0 : Nat) (a1 : Int32) (a2 : Int32) (a3 : Int32) (a4 : Int32) (post : Int32 → PS → Prop) : Prop :=
  if a1 = 0 then
    gR S a0 11 0 fun v2 => (
    isO S v2 10 (
    f_X6_welcome S v2 fun v4 S3 => (
    post v4 S3)))
  else
  if a1 = 1 then
    gR S a0 11 0 fun v6 => (
    isO S v6 10 (
    f_X6_dismiss S v6 a2 fun v8 S7 => (
    post v8 S7)))
  else
  if a1 = 2 then
    gR S a0 11 0 fun v10 => (
    isO S v10 10 (
    f_X6_retie S v10 a2 a3 a4 fun v12 S11 => (
    post v12 S11)))
  else
  if a1 = 3 then
    gR S a0 11 0 fun v14 => (
    isO S v14 10 (
    f_X6_retie S v14 a2 a3 0 fun v16 S15 => (
    post v16 S15)))
  else
  if a1 = 4 then
    gR S a0 11 0 fun v18 => (
    isO S v18 10 (
    f_X6_unite S v18 a2 a3 fun v20 S19 => (
    post v20 S19)))
  else
  if a1 = 5 then
    gR S a0 11 0 fun v22 => (
    isO S v22 10 (
    f_X6_moveTo S v22 a2 a3 fun S23 => (
    gR S23 a0 11 0 fun v25 => (
    isO S23 v25 10 (
    f_X6_feudByBonds S23 v25 fun v27 S26 => (
    post v27 S26))))))
  else
    gR S a0 11 4 fun v28 => (
    gR S a0 11 0 fun v29 => (
    isO S v28 7 (
    f_X3_measure S v28 v29 fun S30 => (
    gR S30 a0 11 0 fun v32 => (
    gR S30 a0 11 4 fun v33 => (
    isO S30 v33 7 (
    f_X3_leastGroup S30 v33 fun v35 S34 => (
    pV S34 v32 10 2 (.int v35) fun S36 => (
    gR S36 a0 11 0 fun v37 => (
    isO S36 v37 10 (
    f_X6_feudByBonds S36 v37 fun v39 S38 => (
    post v39 S38))))))))))))
abbrev rm_X7_done : Room := { frames := 5, cells := 0, slots := 0, locals := 108 }
set_option maxHeartbeats 4000000 in
set_option maxRecDepth 100000 in
theorem c_X7_done (l : Launch) (D : va_G) (cy : Nat → ClassId) (G : p_GT) (hG : p_ok G) (S : PS) (a0 : Nat) (a1 : Int32) (a2 : Int32) (a3 : Int32) (a4 : Int32) (post : Int32 → PS → Prop) (sz : Nat) (hf : f_X7_done S a0 a1 a2 a3 a4 post) : p_Mi l D cy G S sz yX7_done (Cond.code yX7_done cX7_done 5 (some .int) :: wG) rm_X7_done [.ref a0, .int a1, .int a2, .int a3, .int a4] 0 0 post := by
  refine q_start hG (Qc := fun A => va_Qi post (p_Post D cy A) A) mf_X7_done (Nat.le_of_ble_eq_true rfl) (own := RX7) rfl ?_
  intro p e s m below meth c A X hr hlk hnm ls hl hH
  have hx := X.1.1
  have hb := X.1.2.1
  replace hl : lv_has ls 5 [(0, .ref a0), (1, .int a1), (2, .int a2), (3, .int a3), (4, .int a4)] := hl
  obtain ⟨H, hHe⟩ : ∃ H, H = s.heap := ⟨_, rfl⟩
  obtain ⟨locs, hlo⟩ : ∃ locs : List Loc, locs = [] := ⟨_, rfl⟩
  rw [← hHe, ← hlo] at hH
  show W p l e rm_X7_done s m [.ref a0, .int a1, .int a2, .int a3, .int a4].toArray below meth c s.heap [] 0 0 _ _
  rw [← hHe, ← hlo]
  refine lv_iload_n hx hb dX7_done_0 rfl (lv_at hl 1 rfl) ?_
  by_cases c1 : a1 = 0
  · have hf := (if_pos c1).mp hf
    refine lv_tableIn (off := 39) (tgt := 40) hx hb dX7_done_1 (by rw [c1]; decide) (by rw [c1]; decide) (by rw [c1]; rfl) (by decide) ?_
    refine lv_aload_n hx hb dX7_done_40 rfl (lv_at hl 0 rfl) ?_
    refine q_getR (T := TX7) (N := 12) X hH hf iw_X7 rfl (by decide) tw_319 (fun _ h => h) dX7_done_41 (fun v2 hf => ?_)
    obtain ⟨hb1, hb2, hf⟩ := hf
    refine q_backI0 X hH (q_runV [] [] X hH hl (c_X6_welcome l D cy G X.2.2.2.1 S v2 _ _ hf) mf_X6_welcome mv_X6_welcome tw_1018 ⟨Nat.le_of_ble_eq_true rfl, Nat.le_of_ble_eq_true rfl⟩ hb1 hb2 (T := TX6) (N := 6) rfl rfl (Nat.le_of_ble_eq_true rfl) dX7_done_44 ⟨Nat.le_of_ble_eq_true rfl, Nat.le_of_ble_eq_true rfl⟩) (fun v4 S3 hf H locs hH => ?_)
    exact q_retI X hH hr hlk hf (Nat.zero_le _) (Nat.zero_le _) dX7_done_47
  · have hf := (if_neg c1).mp hf
    by_cases c5 : a1 = 1
    · have hf := (if_pos c5).mp hf
      refine lv_tableIn (off := 47) (tgt := 48) hx hb dX7_done_1 (by rw [c5]; decide) (by rw [c5]; decide) (by rw [c5]; rfl) (by decide) ?_
      refine lv_aload_n hx hb dX7_done_48 rfl (lv_at hl 0 rfl) ?_
      refine q_getR (T := TX7) (N := 12) X hH hf iw_X7 rfl (by decide) tw_319 (fun _ h => h) dX7_done_49 (fun v6 hf => ?_)
      refine lv_iload_n hx hb dX7_done_52 rfl (lv_at hl 2 rfl) ?_
      obtain ⟨hb1, hb2, hf⟩ := hf
      refine q_backI0 X hH (q_runV [.int a2] [] X hH hl (c_X6_dismiss l D cy G X.2.2.2.1 S v6 a2 _ _ hf) mf_X6_dismiss mv_X6_dismiss tw_1022 ⟨Nat.le_of_ble_eq_true rfl, Nat.le_of_ble_eq_true rfl⟩ hb1 hb2 (T := TX6) (N := 6) rfl rfl (Nat.le_of_ble_eq_true rfl) dX7_done_53 ⟨Nat.le_of_ble_eq_true rfl, Nat.le_of_ble_eq_true rfl⟩) (fun v8 S7 hf H locs hH => ?_)
      exact q_retI X hH hr hlk hf (Nat.zero_le _) (Nat.zero_le _) dX7_done_56
    · have hf := (if_neg c5).mp hf
      by_cases c9 : a1 = 2
      · have hf := (if_pos c9).mp hf
        refine lv_tableIn (off := 56) (tgt := 57) hx hb dX7_done_1 (by rw [c9]; decide) (by rw [c9]; decide) (by rw [c9]; rfl) (by decide) ?_
        refine lv_aload_n hx hb dX7_done_57 rfl (lv_at hl 0 rfl) ?_
        refine q_getR (T := TX7) (N := 12) X hH hf iw_X7 rfl (by decide) tw_319 (fun _ h => h) dX7_done_58 (fun v10 hf => ?_)
        refine lv_iload_n hx hb dX7_done_61 rfl (lv_at hl 2 rfl) ?_
        refine lv_iload_n hx hb dX7_done_62 rfl (lv_at hl 3 rfl) ?_
        refine lv_iload hx hb dX7_done_63 (lv_at hl 4 rfl) ?_
        obtain ⟨hb1, hb2, hf⟩ := hf
        refine q_backI0 X hH (q_runV [.int a2, .int a3, .int a4] [] X hH hl (c_X6_retie l D cy G X.2.2.2.1 S v10 a2 a3 a4 _ _ hf) mf_X6_retie mv_X6_retie tw_1030 ⟨Nat.le_of_ble_eq_true rfl, Nat.le_of_ble_eq_true rfl⟩ hb1 hb2 (T := TX6) (N := 6) rfl rfl (Nat.le_of_ble_eq_true rfl) dX7_done_65 ⟨Nat.le_of_ble_eq_true rfl, Nat.le_of_ble_eq_true rfl⟩) (fun v12 S11 hf H locs hH => ?_)
        exact q_retI X hH hr hlk hf (Nat.zero_le _) (Nat.zero_le _) dX7_done_68
      · have hf := (if_neg c9).mp hf
        by_cases c13 : a1 = 3
        · have hf := (if_pos c13).mp hf
          refine lv_tableIn (off := 68) (tgt := 69) hx hb dX7_done_1 (by rw [c13]; decide) (by rw [c13]; decide) (by rw [c13]; rfl) (by decide) ?_
          refine lv_aload_n hx hb dX7_done_69 rfl (lv_at hl 0 rfl) ?_
          refine q_getR (T := TX7) (N := 12) X hH hf iw_X7 rfl (by decide) tw_319 (fun _ h => h) dX7_done_70 (fun v14 hf => ?_)
          refine lv_iload_n hx hb dX7_done_73 rfl (lv_at hl 2 rfl) ?_
          refine lv_iload_n hx hb dX7_done_74 rfl (lv_at hl 3 rfl) ?_
          refine lv_iconst (v := 0) hx hb dX7_done_75 (by decide) ?_
          obtain ⟨hb1, hb2, hf⟩ := hf
          refine q_backI0 X hH (q_runV [.int a2, .int a3, .int 0] [] X hH hl (c_X6_retie l D cy G X.2.2.2.1 S v14 a2 a3 0 _ _ hf) mf_X6_retie mv_X6_retie tw_1030 ⟨Nat.le_of_ble_eq_true rfl, Nat.le_of_ble_eq_true rfl⟩ hb1 hb2 (T := TX6) (N := 6) rfl rfl (Nat.le_of_ble_eq_true rfl) dX7_done_76 ⟨Nat.le_of_ble_eq_true rfl, Nat.le_of_ble_eq_true rfl⟩) (fun v16 S15 hf H locs hH => ?_)
          exact q_retI X hH hr hlk hf (Nat.zero_le _) (Nat.zero_le _) dX7_done_79
        · have hf := (if_neg c13).mp hf
          by_cases c17 : a1 = 4
          · have hf := (if_pos c17).mp hf
            refine lv_tableIn (off := 79) (tgt := 80) hx hb dX7_done_1 (by rw [c17]; decide) (by rw [c17]; decide) (by rw [c17]; rfl) (by decide) ?_
            refine lv_aload_n hx hb dX7_done_80 rfl (lv_at hl 0 rfl) ?_
            refine q_getR (T := TX7) (N := 12) X hH hf iw_X7 rfl (by decide) tw_319 (fun _ h => h) dX7_done_81 (fun v18 hf => ?_)
            refine lv_iload_n hx hb dX7_done_84 rfl (lv_at hl 2 rfl) ?_
            refine lv_iload_n hx hb dX7_done_85 rfl (lv_at hl 3 rfl) ?_
            obtain ⟨hb1, hb2, hf⟩ := hf
            refine q_backI0 X hH (q_runV [.int a2, .int a3] [] X hH hl (c_X6_unite l D cy G X.2.2.2.1 S v18 a2 a3 _ _ hf) mf_X6_unite mv_X6_unite tw_1034 ⟨Nat.le_of_ble_eq_true rfl, Nat.le_of_ble_eq_true rfl⟩ hb1 hb2 (T := TX6) (N := 6) rfl rfl (Nat.le_of_ble_eq_true rfl) dX7_done_86 ⟨Nat.le_of_ble_eq_true rfl, Nat.le_of_ble_eq_true rfl⟩) (fun v20 S19 hf H locs hH => ?_)
            exact q_retI X hH hr hlk hf (Nat.zero_le _) (Nat.zero_le _) dX7_done_89
          · have hf := (if_neg c17).mp hf
            by_cases c21 : a1 = 5
            · have hf := (if_pos c21).mp hf
              refine lv_tableIn (off := 89) (tgt := 90) hx hb dX7_done_1 (by rw [c21]; decide) (by rw [c21]; decide) (by rw [c21]; rfl) (by decide) ?_
              refine lv_aload_n hx hb dX7_done_90 rfl (lv_at hl 0 rfl) ?_
              refine q_getR (T := TX7) (N := 12) X hH hf iw_X7 rfl (by decide) tw_319 (fun _ h => h) dX7_done_91 (fun v22 hf => ?_)
              refine lv_iload_n hx hb dX7_done_94 rfl (lv_at hl 2 rfl) ?_
              refine lv_iload_n hx hb dX7_done_95 rfl (lv_at hl 3 rfl) ?_
              obtain ⟨hb1, hb2, hf⟩ := hf
              refine q_backV0 X hH (q_runV [.int a2, .int a3] [] X hH hl (c_X6_moveTo l D cy G X.2.2.2.1 S v22 a2 a3 _ _ hf) mf_X6_moveTo mv_X6_moveTo tw_1039 ⟨Nat.le_of_ble_eq_true rfl, Nat.le_of_ble_eq_true rfl⟩ hb1 hb2 (T := TX6) (N := 6) rfl rfl (Nat.le_of_ble_eq_true rfl) dX7_done_96 ⟨Nat.le_of_ble_eq_true rfl, Nat.le_of_ble_eq_true rfl⟩) (fun S23 hf H locs hH => ?_)
              refine lv_aload_n hx hb dX7_done_99 rfl (lv_at hl 0 rfl) ?_
              refine q_getR (T := TX7) (N := 12) X hH hf iw_X7 rfl (by decide) tw_319 (fun _ h => h) dX7_done_100 (fun v25 hf => ?_)
              obtain ⟨hb1, hb2, hf⟩ := hf
              refine q_backI0 X hH (q_runV [] [] X hH hl (c_X6_feudByBonds l D cy G X.2.2.2.1 S23 v25 _ _ hf) mf_X6_feudByBonds mv_X6_feudByBonds tw_360 ⟨Nat.le_of_ble_eq_true rfl, Nat.le_of_ble_eq_true rfl⟩ hb1 hb2 (T := TX6) (N := 6) rfl rfl (Nat.le_of_ble_eq_true rfl) dX7_done_103 ⟨Nat.le_of_ble_eq_true rfl, Nat.le_of_ble_eq_true rfl⟩) (fun v27 S26 hf H locs hH => ?_)
              exact q_retI X hH hr hlk hf (Nat.zero_le _) (Nat.zero_le _) dX7_done_106
            · have hf := (if_neg c21).mp hf
              refine lv_tableOut (tgt := 107) hx hb dX7_done_1 (by have z0 := lv_neT c1 (a := 0) rfl; have z1 := lv_neT c5 (a := 1) rfl; have z2 := lv_neT c9 (a := 2) rfl; have z3 := lv_neT c13 (a := 3) rfl; have z4 := lv_neT c17 (a := 4) rfl; have z5 := lv_neT c21 (a := 5) rfl; omega) (by decide) ?_
              refine lv_aload_n hx hb dX7_done_107 rfl (lv_at hl 0 rfl) ?_
              refine q_getR (T := TX7) (N := 12) X hH hf iw_X7 rfl (by decide) tw_323 (fun _ h => h) dX7_done_108 (fun v28 hf => ?_)
              refine lv_aload_n hx hb dX7_done_111 rfl (lv_at hl 0 rfl) ?_
              refine q_getR (T := TX7) (N := 12) X hH hf iw_X7 rfl (by decide) tw_319 (fun _ h => h) dX7_done_112 (fun v29 hf => ?_)
              obtain ⟨hb1, hb2, hf⟩ := hf
              refine q_backV0 X hH (q_runV [.ref v29] [] X hH hl (c_X3_measure l D cy G X.2.2.2.1 S v28 v29 _ _ hf) mf_X3_measure mv_X3_measure tw_439 ⟨Nat.le_of_ble_eq_true rfl, Nat.le_of_ble_eq_true rfl⟩ hb1 hb2 (T := TX3) (N := 6) rfl rfl (Nat.le_of_ble_eq_true rfl) dX7_done_115 ⟨Nat.le_of_ble_eq_true rfl, Nat.le_of_ble_eq_true rfl⟩) (fun S30 hf H locs hH => ?_)
              refine lv_aload_n hx hb dX7_done_118 rfl (lv_at hl 0 rfl) ?_
              refine q_getR (T := TX7) (N := 12) X hH hf iw_X7 rfl (by decide) tw_319 (fun _ h => h) dX7_done_119 (fun v32 hf => ?_)
              refine lv_aload_n hx hb dX7_done_122 rfl (lv_at hl 0 rfl) ?_
              refine q_getR (T := TX7) (N := 12) X hH hf iw_X7 rfl (by decide) tw_323 (fun _ h => h) dX7_done_123 (fun v33 hf => ?_)
              obtain ⟨hb1, hb2, hf⟩ := hf
              refine q_backI0 X hH (q_runV [] [.ref v32] X hH hl (c_X3_leastGroup l D cy G X.2.2.2.1 S30 v33 _ _ hf) mf_X3_leastGroup mv_X3_leastGroup tw_1043 ⟨Nat.le_of_ble_eq_true rfl, Nat.le_of_ble_eq_true rfl⟩ hb1 hb2 (T := TX3) (N := 6) rfl rfl (Nat.le_of_ble_eq_true rfl) dX7_done_126 ⟨Nat.le_of_ble_eq_true rfl, Nat.le_of_ble_eq_true rfl⟩) (fun v35 S34 hf H locs hH => ?_)
              refine q_putN (T := TX6) (N := 6) (ty0 := tyX6) (ty := tyX6 2) X hH hf iw_X6 tyX6_ok nmX6 rfl (by decide) (List.mem_of_getElem? (i := 1) rfl) (fun _ h => h) rfl (tyX6_ok 2 (by decide)) rfl rfl dX7_done_129 (fun S36 hf H locs hH => ?_)
              refine lv_aload_n hx hb dX7_done_132 rfl (lv_at hl 0 rfl) ?_
              refine q_getR (T := TX7) (N := 12) X hH hf iw_X7 rfl (by decide) tw_319 (fun _ h => h) dX7_done_133 (fun v37 hf => ?_)
              obtain ⟨hb1, hb2, hf⟩ := hf
              refine q_backI0 X hH (q_runV [] [] X hH hl (c_X6_feudByBonds l D cy G X.2.2.2.1 S36 v37 _ _ hf) mf_X6_feudByBonds mv_X6_feudByBonds tw_360 ⟨Nat.le_of_ble_eq_true rfl, Nat.le_of_ble_eq_true rfl⟩ hb1 hb2 (T := TX6) (N := 6) rfl rfl (Nat.le_of_ble_eq_true rfl) dX7_done_136 ⟨Nat.le_of_ble_eq_true rfl, Nat.le_of_ble_eq_true rfl⟩) (fun v39 S38 hf H locs hH => ?_)
              exact q_retI X hH hr hlk hf (Nat.zero_le _) (Nat.zero_le _) dX7_done_139
-- X7_doesOrders
def f_X7_doesOrders_J118 (post : Int32 → PS → Prop) (S : PS) (bc bs : Nat) (l0 : Nat) : Prop :=
  gR S l0 11 3 fun v1 => (
  gR S l0 11 2 fun v2 => (
  isO S v1 6 (
  ∃ mc4 ms4 : Nat, mc4 ≤ bc ∧ ms4 ≤ bs ∧ (f_X2_keep S v1 v2 mc4 ms4 fun S3 => (
  nZ .boolean 1 (post 1 S3))))))
def f_X7_doesOrders_J78 (post : Int32 → PS → Prop) (S : PS) (bc bs : Nat) (l0 : Nat) (l1 : Int32) : Prop :=
  gR S l0 11 8 fun v1 => (
  isO S v1 8 (
  f_X4_putBehind S v1 8 l1 fun S2 => (
  gR S2 l0 11 0 fun v4 => (
  gR S2 l0 11 2 fun v5 => (
  isO S2 v4 10 (
  f_X6_copyFrom S2 v4 v5 fun S6 => (
  nZ .boolean 0 (post 0 S6))))))))
def f_X7_doesOrders_L13 (post : Int32 → PS → Prop) : Nat → PS → Nat → Nat → Nat → Int32 → Prop
  | 0, _, _, _, _, _ => False
  | n + 1, S, bc, bs, l0, l1 =>
  gR S l0 11 7 fun v1 => (
  isO S v1 9 (
  f_X5_orders S v1 fun v3 S2 => (
  if v3 ≤ l1 then
    f_X7_doesOrders_J118 post S2 bc bs l0
  else
    gR S2 l0 11 7 fun v5 => (
    isO S2 v5 9 (
    f_X5_kindOf S2 v5 l1 fun v7 S6 => (
    gR S6 l0 11 7 fun v8 => (
    isO S6 v8 9 (
    f_X5_numberOf S6 v8 l1 0 fun v10 S9 => (
    gR S9 l0 11 7 fun v11 => (
    isO S9 v11 9 (
    f_X5_numberOf S9 v11 l1 1 fun v13 S12 => (
    gR S12 l0 11 7 fun v14 => (
    isO S12 v14 9 (
    f_X5_numberOf S12 v14 l1 2 fun v16 S15 => (
    isO S15 l0 11 (
    f_X7_refuses S15 l0 v7 v10 v13 v16 fun v18 S17 => (
    if v18 = 0 then
      isO S17 l0 11 (
      f_X7_done S17 l0 v7 v10 v13 v16 fun v21 S20 => (
      (f_X7_doesOrders_L13 post n) S20 bc bs l0 (l1 + 1)))
    else
      f_X7_doesOrders_J78 post S17 bc bs l0 l1)))))))))))))))))
def f_X7_doesOrders (S : PS) (a0 : Nat) (bc bs : Nat) (post : Int32 → PS → Prop) : Prop :=
  gR S a0 11 2 fun v1 => (
  gR S a0 11 0 fun v2 => (
  isO S v1 10 (
  f_X6_copyFrom S v1 v2 fun S3 => (
  f_X7_doesOrders_L13 post 4096 S3 bc bs a0 0))))
abbrev rm_X7_doesOrders (mc ms : Nat) : Room := { frames := 6, cells := mc, slots := ms, locals := 132 }
set_option maxHeartbeats 4000000 in
set_option maxRecDepth 100000 in
theorem c_X7_doesOrders (l : Launch) (D : va_G) (cy : Nat → ClassId) (G : p_GT) (hG : p_ok G) (S : PS) (a0 : Nat) (mc ms : Nat) (post : Int32 → PS → Prop) (sz : Nat) (hf : f_X7_doesOrders S a0 mc ms post) : p_Mi l D cy G S sz yX7_doesOrders (Cond.code yX7_doesOrders cX7_doesOrders 6 (some .boolean) :: wG) (rm_X7_doesOrders mc ms) [.ref a0] mc ms post := by
  refine q_start hG (Qc := fun A => va_Qi post (p_Post D cy A) A) mf_X7_doesOrders (Nat.le_of_ble_eq_true rfl) (own := RX7) rfl ?_
  intro p e s m below meth c A X hr hlk hnm ls hl hH
  have hx := X.1.1
  have hb := X.1.2.1
  replace hl : lv_has ls 6 [(0, .ref a0)] := hl
  have main : ∀ (H : Heap) (locs : List Loc) (ls : Array Slot) (cells slots bc bs : Nat), f_X7_doesOrders S a0 bc bs post → p_H D cy S A s H locs → lv_has ls 6 [(0, .ref a0)] → cells + bc ≤ mc ∧ slots + bs ≤ ms → W p l e (rm_X7_doesOrders mc ms) s m [.ref a0].toArray below meth c H locs cells slots (MQ below (va_Qi post (p_Post D cy A) A) [.ref a0].toArray s mc ms A) (F0 m 0 ls []) := by
    intro H locs ls cells slots bc bs hf hH hl hB
    have hL13 : ∀ (n13 : Nat) (S : PS) (bc bs : Nat) (l0 : Nat) (l1 : Int32), f_X7_doesOrders_L13 post n13 S bc bs l0 l1 → ∀ (H : Heap) (locs : List Loc) (ls : Array Slot) (cells slots : Nat), p_H D cy S A s H locs → lv_has ls 6 [(0, .ref l0), (1, .int l1)] → cells + bc ≤ mc ∧ slots + bs ≤ ms → W p l e (rm_X7_doesOrders mc ms) s m [.ref a0].toArray below meth c H locs cells slots (MQ below (va_Qi post (p_Post D cy A) A) [.ref a0].toArray s mc ms A) (F0 m 13 ls []) := by
      intro n13
      induction n13 with
      | zero => intro S bc bs l0 l1 hf; exact hf.elim
      | succ n13 ih13 =>
        intro S bc bs l0 l1 hf H locs ls cells slots hH hl hB
        have hJ118 : ∀ (S : PS) (bc bs : Nat) (l0 : Nat), f_X7_doesOrders_J118 post S bc bs l0 → ∀ (H : Heap) (locs : List Loc) (ls : Array Slot) (cells slots : Nat), p_H D cy S A s H locs → lv_has ls 6 [(0, .ref l0)] → cells + bc ≤ mc ∧ slots + bs ≤ ms → W p l e (rm_X7_doesOrders mc ms) s m [.ref a0].toArray below meth c H locs cells slots (MQ below (va_Qi post (p_Post D cy A) A) [.ref a0].toArray s mc ms A) (F0 m 118 ls []) := by
          intro S bc bs l0 hf H locs ls cells slots hH hl hB
          refine lv_aload_n hx hb dX7_doesOrders_118 rfl (lv_at hl 0 rfl) ?_
          refine q_getR (T := TX7) (N := 12) X hH hf iw_X7 rfl (by decide) tw_322 (fun _ h => h) dX7_doesOrders_119 (fun v1 hf => ?_)
          refine lv_aload_n hx hb dX7_doesOrders_122 rfl (lv_at hl 0 rfl) ?_
          refine q_getR (T := TX7) (N := 12) X hH hf iw_X7 rfl (by decide) tw_321 (fun _ h => h) dX7_doesOrders_123 (fun v2 hf => ?_)
          obtain ⟨hb1, hb2, hf⟩ := hf
          obtain ⟨mc4, ms4, hm1, hs1, hf⟩ := hf
          refine q_backVB X hH hB hm1 hs1 (q_runV [.ref v2] [] X hH hl (c_X2_keep l D cy G X.2.2.2.1 S v1 v2 mc4 ms4 _ _ hf) mf_X2_keep mv_X2_keep tw_1007 ⟨Nat.le_of_ble_eq_true rfl, Nat.le_of_ble_eq_true rfl⟩ hb1 hb2 (T := TX2) (N := 3) rfl rfl (Nat.le_of_ble_eq_true rfl) dX7_doesOrders_126 ⟨Nat.le_trans (Nat.add_le_add_left hm1 _) hB.1, Nat.le_trans (Nat.add_le_add_left hs1 _) hB.2⟩) (fun S3 hf H locs cells slots hH hB => ?_)
          refine lv_iconst (v := 1) hx hb dX7_doesOrders_129 (by decide) ?_
          exact q_retZ X hH hr hlk hf (Nat.le_trans (Nat.le_add_right _ _) hB.1) (Nat.le_trans (Nat.le_add_right _ _) hB.2) dX7_doesOrders_130
        have hJ78 : ∀ (S : PS) (bc bs : Nat) (l0 : Nat) (l1 : Int32), f_X7_doesOrders_J78 post S bc bs l0 l1 → ∀ (H : Heap) (locs : List Loc) (ls : Array Slot) (cells slots : Nat), p_H D cy S A s H locs → lv_has ls 6 [(0, .ref l0), (1, .int l1)] → cells + bc ≤ mc ∧ slots + bs ≤ ms → W p l e (rm_X7_doesOrders mc ms) s m [.ref a0].toArray below meth c H locs cells slots (MQ below (va_Qi post (p_Post D cy A) A) [.ref a0].toArray s mc ms A) (F0 m 78 ls []) := by
          intro S bc bs l0 l1 hf H locs ls cells slots hH hl hB
          refine lv_aload_n hx hb dX7_doesOrders_78 rfl (lv_at hl 0 rfl) ?_
          refine q_getR (T := TX7) (N := 12) X hH hf iw_X7 rfl (by decide) tw_327 (fun _ h => h) dX7_doesOrders_79 (fun v1 hf => ?_)
          refine lv_bipush (v := 8) hx hb dX7_doesOrders_82 (by decide) ?_
          refine lv_iload_n hx hb dX7_doesOrders_84 rfl (lv_at hl 1 rfl) ?_
          obtain ⟨hb1, hb2, hf⟩ := hf
          refine q_backV0 X hH (q_runV [.int 8, .int l1] [] X hH hl (c_X4_putBehind l D cy G X.2.2.2.1 S v1 8 l1 _ _ hf) mf_X4_putBehind mv_X4_putBehind tw_1481 ⟨Nat.le_of_ble_eq_true rfl, Nat.le_of_ble_eq_true rfl⟩ hb1 hb2 (T := TX4) (N := 4) rfl rfl (Nat.le_of_ble_eq_true rfl) dX7_doesOrders_85 ⟨Nat.le_trans (Nat.le_add_right _ _) hB.1, Nat.le_trans (Nat.le_add_right _ _) hB.2⟩) (fun S2 hf H locs hH => ?_)
          refine lv_aload_n hx hb dX7_doesOrders_88 rfl (lv_at hl 0 rfl) ?_
          refine q_getR (T := TX7) (N := 12) X hH hf iw_X7 rfl (by decide) tw_319 (fun _ h => h) dX7_doesOrders_89 (fun v4 hf => ?_)
          refine lv_aload_n hx hb dX7_doesOrders_92 rfl (lv_at hl 0 rfl) ?_
          refine q_getR (T := TX7) (N := 12) X hH hf iw_X7 rfl (by decide) tw_321 (fun _ h => h) dX7_doesOrders_93 (fun v5 hf => ?_)
          obtain ⟨hb1, hb2, hf⟩ := hf
          refine q_backV0 X hH (q_runV [.ref v5] [] X hH hl (c_X6_copyFrom l D cy G X.2.2.2.1 S2 v4 v5 _ _ hf) mf_X6_copyFrom mv_X6_copyFrom tw_944 ⟨Nat.le_of_ble_eq_true rfl, Nat.le_of_ble_eq_true rfl⟩ hb1 hb2 (T := TX6) (N := 6) rfl rfl (Nat.le_of_ble_eq_true rfl) dX7_doesOrders_96 ⟨Nat.le_trans (Nat.le_add_right _ _) hB.1, Nat.le_trans (Nat.le_add_right _ _) hB.2⟩) (fun S6 hf H locs hH => ?_)
          refine lv_iconst (v := 0) hx hb dX7_doesOrders_99 (by decide) ?_
          exact q_retZ X hH hr hlk hf (Nat.le_trans (Nat.le_add_right _ _) hB.1) (Nat.le_trans (Nat.le_add_right _ _) hB.2) dX7_doesOrders_100
        refine lv_iload_n hx hb dX7_doesOrders_13 rfl (lv_at hl 1 rfl) ?_
        refine lv_aload_n hx hb dX7_doesOrders_14 rfl (lv_at hl 0 rfl) ?_
        refine q_getR (T := TX7) (N := 12) X hH hf iw_X7 rfl (by decide) tw_326 (fun _ h => h) dX7_doesOrders_15 (fun v1 hf => ?_)
        obtain ⟨hb1, hb2, hf⟩ := hf
        refine q_backI0 X hH (q_runV [] [.int l1] X hH hl (c_X5_orders l D cy G X.2.2.2.1 S v1 _ _ hf) mf_X5_orders mv_X5_orders tw_1469 ⟨Nat.le_of_ble_eq_true rfl, Nat.le_of_ble_eq_true rfl⟩ hb1 hb2 (T := TX5) (N := 7) rfl rfl (Nat.le_of_ble_eq_true rfl) dX7_doesOrders_18 ⟨Nat.le_trans (Nat.le_add_right _ _) hB.1, Nat.le_trans (Nat.le_add_right _ _) hB.2⟩) (fun v3 S2 hf H locs hH => ?_)
        refine lv_icmp_ge (tgt := 118) hx hb dX7_doesOrders_21 (by decide) (fun c4 => ?_) (fun c4 => ?_)
        · have hf := (if_pos c4).mp hf
          exact hJ118 S2 bc bs l0 hf H locs ls cells slots hH (lv_sub hl [0] rfl) hB
        · have hf := (if_neg c4).mp hf
          refine lv_aload_n hx hb dX7_doesOrders_24 rfl (lv_at hl 0 rfl) ?_
          refine q_getR (T := TX7) (N := 12) X hH hf iw_X7 rfl (by decide) tw_326 (fun _ h => h) dX7_doesOrders_25 (fun v5 hf => ?_)
          refine lv_iload_n hx hb dX7_doesOrders_28 rfl (lv_at hl 1 rfl) ?_
          obtain ⟨hb1, hb2, hf⟩ := hf
          refine q_backI0 X hH (q_runV [.int l1] [] X hH hl (c_X5_kindOf l D cy G X.2.2.2.1 S2 v5 l1 _ _ hf) mf_X5_kindOf mv_X5_kindOf tw_1473 ⟨Nat.le_of_ble_eq_true rfl, Nat.le_of_ble_eq_true rfl⟩ hb1 hb2 (T := TX5) (N := 7) rfl rfl (Nat.le_of_ble_eq_true rfl) dX7_doesOrders_29 ⟨Nat.le_trans (Nat.le_add_right _ _) hB.1, Nat.le_trans (Nat.le_add_right _ _) hB.2⟩) (fun v7 S6 hf H locs hH => ?_)
          refine lv_istore_n (lv' := [(2, .int v7), (0, .ref l0), (1, .int l1)]) hx hb dX7_doesOrders_32 rfl hl (by decide) rfl (fun ls hl => ?_)
          refine lv_aload_n hx hb dX7_doesOrders_33 rfl (lv_at hl 1 rfl) ?_
          refine q_getR (T := TX7) (N := 12) X hH hf iw_X7 rfl (by decide) tw_326 (fun _ h => h) dX7_doesOrders_34 (fun v8 hf => ?_)
          refine lv_iload_n hx hb dX7_doesOrders_37 rfl (lv_at hl 2 rfl) ?_
          refine lv_iconst (v := 0) hx hb dX7_doesOrders_38 (by decide) ?_
          obtain ⟨hb1, hb2, hf⟩ := hf
          refine q_backI0 X hH (q_runV [.int l1, .int 0] [] X hH hl (c_X5_numberOf l D cy G X.2.2.2.1 S6 v8 l1 0 _ _ hf) mf_X5_numberOf mv_X5_numberOf tw_1477 ⟨Nat.le_of_ble_eq_true rfl, Nat.le_of_ble_eq_true rfl⟩ hb1 hb2 (T := TX5) (N := 7) rfl rfl (Nat.le_of_ble_eq_true rfl) dX7_doesOrders_39 ⟨Nat.le_trans (Nat.le_add_right _ _) hB.1, Nat.le_trans (Nat.le_add_right _ _) hB.2⟩) (fun v10 S9 hf H locs hH => ?_)
          refine lv_istore_n (lv' := [(3, .int v10), (2, .int v7), (0, .ref l0), (1, .int l1)]) hx hb dX7_doesOrders_42 rfl hl (by decide) rfl (fun ls hl => ?_)
          refine lv_aload_n hx hb dX7_doesOrders_43 rfl (lv_at hl 2 rfl) ?_
          refine q_getR (T := TX7) (N := 12) X hH hf iw_X7 rfl (by decide) tw_326 (fun _ h => h) dX7_doesOrders_44 (fun v11 hf => ?_)
          refine lv_iload_n hx hb dX7_doesOrders_47 rfl (lv_at hl 3 rfl) ?_
          refine lv_iconst (v := 1) hx hb dX7_doesOrders_48 (by decide) ?_
          obtain ⟨hb1, hb2, hf⟩ := hf
          refine q_backI0 X hH (q_runV [.int l1, .int 1] [] X hH hl (c_X5_numberOf l D cy G X.2.2.2.1 S9 v11 l1 1 _ _ hf) mf_X5_numberOf mv_X5_numberOf tw_1477 ⟨Nat.le_of_ble_eq_true rfl, Nat.le_of_ble_eq_true rfl⟩ hb1 hb2 (T := TX5) (N := 7) rfl rfl (Nat.le_of_ble_eq_true rfl) dX7_doesOrders_49 ⟨Nat.le_trans (Nat.le_add_right _ _) hB.1, Nat.le_trans (Nat.le_add_right _ _) hB.2⟩) (fun v13 S12 hf H locs hH => ?_)
          refine lv_istore (lv' := [(4, .int v13), (3, .int v10), (2, .int v7), (0, .ref l0), (1, .int l1)]) hx hb dX7_doesOrders_52 hl (by decide) rfl (fun ls hl => ?_)
          refine lv_aload_n hx hb dX7_doesOrders_54 rfl (lv_at hl 3 rfl) ?_
          refine q_getR (T := TX7) (N := 12) X hH hf iw_X7 rfl (by decide) tw_326 (fun _ h => h) dX7_doesOrders_55 (fun v14 hf => ?_)
          refine lv_iload_n hx hb dX7_doesOrders_58 rfl (lv_at hl 4 rfl) ?_
          refine lv_iconst (v := 2) hx hb dX7_doesOrders_59 (by decide) ?_
          obtain ⟨hb1, hb2, hf⟩ := hf
          refine q_backI0 X hH (q_runV [.int l1, .int 2] [] X hH hl (c_X5_numberOf l D cy G X.2.2.2.1 S12 v14 l1 2 _ _ hf) mf_X5_numberOf mv_X5_numberOf tw_1477 ⟨Nat.le_of_ble_eq_true rfl, Nat.le_of_ble_eq_true rfl⟩ hb1 hb2 (T := TX5) (N := 7) rfl rfl (Nat.le_of_ble_eq_true rfl) dX7_doesOrders_60 ⟨Nat.le_trans (Nat.le_add_right _ _) hB.1, Nat.le_trans (Nat.le_add_right _ _) hB.2⟩) (fun v16 S15 hf H locs hH => ?_)
          refine lv_istore (lv' := [(5, .int v16), (4, .int v13), (3, .int v10), (2, .int v7), (0, .ref l0), (1, .int l1)]) hx hb dX7_doesOrders_63 hl (by decide) rfl (fun ls hl => ?_)
          refine lv_aload_n hx hb dX7_doesOrders_65 rfl (lv_at hl 4 rfl) ?_
          refine lv_iload_n hx hb dX7_doesOrders_66 rfl (lv_at hl 3 rfl) ?_
          refine lv_iload_n hx hb dX7_doesOrders_67 rfl (lv_at hl 2 rfl) ?_
          refine lv_iload hx hb dX7_doesOrders_68 (lv_at hl 1 rfl) ?_
          refine lv_iload hx hb dX7_doesOrders_70 (lv_at hl 0 rfl) ?_
          obtain ⟨hb1, hb2, hf⟩ := hf
          refine q_backI0 X hH (q_runV [.int v7, .int v10, .int v13, .int v16] [] X hH hl (c_X7_refuses l D cy G X.2.2.2.1 S15 l0 v7 v10 v13 v16 _ _ hf) mf_X7_refuses mv_X7_refuses tw_957 ⟨Nat.le_of_ble_eq_true rfl, Nat.le_of_ble_eq_true rfl⟩ hb1 hb2 (T := TX7) (N := 12) rfl rfl (Nat.le_of_ble_eq_true rfl) dX7_doesOrders_72 ⟨Nat.le_trans (Nat.le_add_right _ _) hB.1, Nat.le_trans (Nat.le_add_right _ _) hB.2⟩) (fun v18 S17 hf H locs hH => ?_)
          refine lv_if_eq (tgt := 101) hx hb dX7_doesOrders_75 (by decide) (fun c19 => ?_) (fun c19 => ?_)
          · have hf := (if_pos c19).mp hf
            refine lv_aload_n hx hb dX7_doesOrders_101 rfl (lv_at hl 4 rfl) ?_
            refine lv_iload_n hx hb dX7_doesOrders_102 rfl (lv_at hl 3 rfl) ?_
            refine lv_iload_n hx hb dX7_doesOrders_103 rfl (lv_at hl 2 rfl) ?_
            refine lv_iload hx hb dX7_doesOrders_104 (lv_at hl 1 rfl) ?_
            refine lv_iload hx hb dX7_doesOrders_106 (lv_at hl 0 rfl) ?_
            obtain ⟨hb1, hb2, hf⟩ := hf
            refine q_backI0 X hH (q_runV [.int v7, .int v10, .int v13, .int v16] [] X hH hl (c_X7_done l D cy G X.2.2.2.1 S17 l0 v7 v10 v13 v16 _ _ hf) mf_X7_done mv_X7_done tw_1014 ⟨Nat.le_of_ble_eq_true rfl, Nat.le_of_ble_eq_true rfl⟩ hb1 hb2 (T := TX7) (N := 12) rfl rfl (Nat.le_of_ble_eq_true rfl) dX7_doesOrders_108 ⟨Nat.le_trans (Nat.le_add_right _ _) hB.1, Nat.le_trans (Nat.le_add_right _ _) hB.2⟩) (fun v21 S20 hf H locs hH => ?_)
            refine lv_pop hx hb dX7_doesOrders_111 rfl ?_
            refine lv_iinc (v := l1 + 1) (lv' := [(1, .int (l1 + 1)), (5, .int v16), (4, .int v13), (3, .int v10), (2, .int v7), (0, .ref l0)]) hx hb dX7_doesOrders_112 hl (k := 5) rfl rfl (by decide) rfl (fun ls hl => ?_)
            refine lv_goto (tgt := 13) hx hb dX7_doesOrders_115 (by decide) ?_
            exact ih13 S20 bc bs l0 (l1 + 1) hf H locs ls cells slots hH (lv_sub hl [5, 0] rfl) hB
          · have hf := (if_neg c19).mp hf
            exact hJ78 S17 bc bs l0 l1 hf H locs ls cells slots hH (lv_sub hl [4, 5] rfl) hB
    refine lv_aload_n hx hb dX7_doesOrders_0 rfl (lv_at hl 0 rfl) ?_
    refine q_getR (T := TX7) (N := 12) X hH hf iw_X7 rfl (by decide) tw_321 (fun _ h => h) dX7_doesOrders_1 (fun v1 hf => ?_)
    refine lv_aload_n hx hb dX7_doesOrders_4 rfl (lv_at hl 0 rfl) ?_
    refine q_getR (T := TX7) (N := 12) X hH hf iw_X7 rfl (by decide) tw_319 (fun _ h => h) dX7_doesOrders_5 (fun v2 hf => ?_)
    obtain ⟨hb1, hb2, hf⟩ := hf
    refine q_backV0 X hH (q_runV [.ref v2] [] X hH hl (c_X6_copyFrom l D cy G X.2.2.2.1 S v1 v2 _ _ hf) mf_X6_copyFrom mv_X6_copyFrom tw_944 ⟨Nat.le_of_ble_eq_true rfl, Nat.le_of_ble_eq_true rfl⟩ hb1 hb2 (T := TX6) (N := 6) rfl rfl (Nat.le_of_ble_eq_true rfl) dX7_doesOrders_8 ⟨Nat.le_trans (Nat.le_add_right _ _) hB.1, Nat.le_trans (Nat.le_add_right _ _) hB.2⟩) (fun S3 hf H locs hH => ?_)
    refine lv_iconst (v := 0) hx hb dX7_doesOrders_11 (by decide) ?_
    refine lv_istore_n (lv' := [(1, .int 0), (0, .ref a0)]) hx hb dX7_doesOrders_12 rfl hl (by decide) rfl (fun ls hl => ?_)
    exact hL13 4096 S3 bc bs a0 0 hf H locs ls cells slots hH (lv_sub hl [1, 0] rfl) hB
  exact main s.heap [] ls 0 0 mc ms hf hH hl ⟨by omega, by omega⟩
-- X7_leastByPhases
def f_X7_leastByPhases (S : PS) (a0 : Nat) (a1 : Nat) (post : Int32 → PS → Prop) : Prop :=
  gR S a0 11 4 fun v1 => (
  isO S v1 7 (
  f_X3_measure S v1 a1 fun S2 => (
  gR S2 a0 11 4 fun v4 => (
  gR S2 a0 11 4 fun v5 => (
  isO S2 v5 7 (
  f_X3_leastPhase S2 v5 fun v7 S6 => (
  isO S6 v4 7 (
  f_X3_cutOf S6 v4 v7 fun v9 S8 => (
  post v9 S8)))))))))
abbrev rm_X7_leastByPhases : Room := { frames := 4, cells := 0, slots := 0, locals := 94 }
set_option maxHeartbeats 4000000 in
set_option maxRecDepth 100000 in
theorem c_X7_leastByPhases (l : Launch) (D : va_G) (cy : Nat → ClassId) (G : p_GT) (hG : p_ok G) (S : PS) (a0 : Nat) (a1 : Nat) (post : Int32 → PS → Prop) (sz : Nat) (hf : f_X7_leastByPhases S a0 a1 post) : p_Mi l D cy G S sz yX7_leastByPhases (Cond.code yX7_leastByPhases cX7_leastByPhases 2 (some .int) :: wG) rm_X7_leastByPhases [.ref a0, .ref a1] 0 0 post := by
  refine q_start hG (Qc := fun A => va_Qi post (p_Post D cy A) A) mf_X7_leastByPhases (Nat.le_of_ble_eq_true rfl) (own := RX7) rfl ?_
  intro p e s m below meth c A X hr hlk hnm ls hl hH
  have hx := X.1.1
  have hb := X.1.2.1
  replace hl : lv_has ls 2 [(0, .ref a0), (1, .ref a1)] := hl
  obtain ⟨H, hHe⟩ : ∃ H, H = s.heap := ⟨_, rfl⟩
  obtain ⟨locs, hlo⟩ : ∃ locs : List Loc, locs = [] := ⟨_, rfl⟩
  rw [← hHe, ← hlo] at hH
  show W p l e rm_X7_leastByPhases s m [.ref a0, .ref a1].toArray below meth c s.heap [] 0 0 _ _
  rw [← hHe, ← hlo]
  refine lv_aload_n hx hb dX7_leastByPhases_0 rfl (lv_at hl 0 rfl) ?_
  refine q_getR (T := TX7) (N := 12) X hH hf iw_X7 rfl (by decide) tw_323 (fun _ h => h) dX7_leastByPhases_1 (fun v1 hf => ?_)
  refine lv_aload_n hx hb dX7_leastByPhases_4 rfl (lv_at hl 1 rfl) ?_
  obtain ⟨hb1, hb2, hf⟩ := hf
  refine q_backV0 X hH (q_runV [.ref a1] [] X hH hl (c_X3_measure l D cy G X.2.2.2.1 S v1 a1 _ _ hf) mf_X3_measure mv_X3_measure tw_439 ⟨Nat.le_of_ble_eq_true rfl, Nat.le_of_ble_eq_true rfl⟩ hb1 hb2 (T := TX3) (N := 6) rfl rfl (Nat.le_of_ble_eq_true rfl) dX7_leastByPhases_5 ⟨Nat.le_of_ble_eq_true rfl, Nat.le_of_ble_eq_true rfl⟩) (fun S2 hf H locs hH => ?_)
  refine lv_aload_n hx hb dX7_leastByPhases_8 rfl (lv_at hl 0 rfl) ?_
  refine q_getR (T := TX7) (N := 12) X hH hf iw_X7 rfl (by decide) tw_323 (fun _ h => h) dX7_leastByPhases_9 (fun v4 hf => ?_)
  refine lv_aload_n hx hb dX7_leastByPhases_12 rfl (lv_at hl 0 rfl) ?_
  refine q_getR (T := TX7) (N := 12) X hH hf iw_X7 rfl (by decide) tw_323 (fun _ h => h) dX7_leastByPhases_13 (fun v5 hf => ?_)
  obtain ⟨hb1, hb2, hf⟩ := hf
  refine q_backI0 X hH (q_runV [] [.ref v4] X hH hl (c_X3_leastPhase l D cy G X.2.2.2.1 S2 v5 _ _ hf) mf_X3_leastPhase mv_X3_leastPhase tw_480 ⟨Nat.le_of_ble_eq_true rfl, Nat.le_of_ble_eq_true rfl⟩ hb1 hb2 (T := TX3) (N := 6) rfl rfl (Nat.le_of_ble_eq_true rfl) dX7_leastByPhases_16 ⟨Nat.le_of_ble_eq_true rfl, Nat.le_of_ble_eq_true rfl⟩) (fun v7 S6 hf H locs hH => ?_)
  obtain ⟨hb1, hb2, hf⟩ := hf
  refine q_backI0 X hH (q_runV [.int v7] [] X hH hl (c_X3_cutOf l D cy G X.2.2.2.1 S6 v4 v7 _ _ hf) mf_X3_cutOf mv_X3_cutOf tw_492 ⟨Nat.le_of_ble_eq_true rfl, Nat.le_of_ble_eq_true rfl⟩ hb1 hb2 (T := TX3) (N := 6) rfl rfl (Nat.le_of_ble_eq_true rfl) dX7_leastByPhases_19 ⟨Nat.le_of_ble_eq_true rfl, Nat.le_of_ble_eq_true rfl⟩) (fun v9 S8 hf H locs hH => ?_)
  exact q_retI X hH hr hlk hf (Nat.zero_le _) (Nat.zero_le _) dX7_leastByPhases_22
