-- X7_ifMoved
def f_X7_ifMoved (S : PS) (a0 : Nat) (a1 : Int32) (bc bs : Nat) (post : Int32 → PS → Prop) (postX : String → PS → Prop) : Prop :=
  gR S a0 11 0 fun v1 => (
  isO S v1 10 (
  f_X6_has S v1 a1 fun v3 S2 => (
  if v3 = 0 then
    tX S2 "java/lang/IndexOutOfBoundsException" bc bs postX
  else
    gR S2 a0 11 0 fun v5 => (
    isO S2 v5 10 (
    f_X6_feudAfterMove S2 v5 a1 fun v7 S6 => (
    post v7 S6))))))
abbrev rm_X7_ifMoved (mc ms : Nat) : Room := { frames := 6, cells := mc, slots := ms, locals := 105 }
set_option maxHeartbeats 4000000 in
set_option maxRecDepth 100000 in
theorem c_X7_ifMoved (l : Launch) (D : va_G) (cy : Nat → ClassId) (G : p_GT) (hG : p_ok G) (hst : l.stackTraces = false) (hGE : ∀ (A : Nat → Prop) (U : State) (H : Heap), G A U H → p_Ex A U H) (S : PS) (a0 : Nat) (a1 : Int32) (mc ms : Nat) (post : Int32 → PS → Prop) (postX : String → PS → Prop) (sz : Nat) (hf : f_X7_ifMoved S a0 a1 mc ms post postX) : p_Xi l D cy G S sz yX7_ifMoved (Cond.code yX7_ifMoved cX7_ifMoved 2 (some .int) :: wG) (rm_X7_ifMoved mc ms) [.ref a0, .int a1] mc ms post postX := by
  refine q_startX hG (Qc := fun A => va_Qi post (p_Post D cy A) A) (XC := fun A => p_XC D cy A postX) mf_X7_ifMoved (Nat.le_of_ble_eq_true rfl) (own := RX7) rfl ?_
  intro p e s m below meth c A X hr hlk hnm htab ls hl hH
  have hx := X.1.1
  have hb := X.1.2.1
  replace hl : lv_has ls 2 [(0, .ref a0), (1, .int a1)] := hl
  have main : ∀ (H : Heap) (locs : List Loc) (ls : Array Slot) (cells slots bc bs : Nat), f_X7_ifMoved S a0 a1 bc bs post postX → p_H D cy S A s H locs → lv_has ls 2 [(0, .ref a0), (1, .int a1)] → cells + bc ≤ mc ∧ slots + bs ≤ ms → W p l e (rm_X7_ifMoved mc ms) s m [.ref a0, .int a1].toArray below meth c H locs cells slots (vx_MQ below (va_Qi post (p_Post D cy A) A) (p_XC D cy A postX) [.ref a0, .int a1].toArray s mc ms A) (F0 m 0 ls []) := by
    intro H locs ls cells slots bc bs hf hH hl hB
    refine lv_aload_n hx hb dX7_ifMoved_0 rfl (lv_at hl 0 rfl) ?_
    refine q_getR (T := TX7) (N := 12) X hH hf iw_X7 rfl (by decide) tw_319 (fun _ h => h) dX7_ifMoved_1 (fun v1 hf => ?_)
    refine lv_iload_n hx hb dX7_ifMoved_4 rfl (lv_at hl 1 rfl) ?_
    obtain ⟨hb1, hb2, hf⟩ := hf
    refine q_backI0 X hH (q_runV [.int a1] [] X hH hl (c_X6_has l D cy G X.2.2.2.1 S v1 a1 _ _ hf) mf_X6_has mv_X6_has tw_973 ⟨Nat.le_of_ble_eq_true rfl, Nat.le_of_ble_eq_true rfl⟩ hb1 hb2 (T := TX6) (N := 6) rfl rfl (Nat.le_of_ble_eq_true rfl) dX7_ifMoved_5 ⟨Nat.le_trans (Nat.le_add_right _ _) hB.1, Nat.le_trans (Nat.le_add_right _ _) hB.2⟩) (fun v3 S2 hf H locs hH => ?_)
    refine lv_if_ne (tgt := 21) hx hb dX7_ifMoved_8 (by decide) (fun c4 => ?_) (fun c4 => ?_)
    · have hf := (if_neg c4).mp hf
      refine lv_aload_n hx hb dX7_ifMoved_21 rfl (lv_at hl 0 rfl) ?_
      refine q_getR (T := TX7) (N := 12) X hH hf iw_X7 rfl (by decide) tw_319 (fun _ h => h) dX7_ifMoved_22 (fun v5 hf => ?_)
      refine lv_iload_n hx hb dX7_ifMoved_25 rfl (lv_at hl 1 rfl) ?_
      obtain ⟨hb1, hb2, hf⟩ := hf
      refine q_backI0 X hH (q_runV [.int a1] [] X hH hl (c_X6_feudAfterMove l D cy G X.2.2.2.1 S2 v5 a1 _ _ hf) mf_X6_feudAfterMove mv_X6_feudAfterMove tw_1257 ⟨Nat.le_of_ble_eq_true rfl, Nat.le_of_ble_eq_true rfl⟩ hb1 hb2 (T := TX6) (N := 6) rfl rfl (Nat.le_of_ble_eq_true rfl) dX7_ifMoved_26 ⟨Nat.le_trans (Nat.le_add_right _ _) hB.1, Nat.le_trans (Nat.le_add_right _ _) hB.2⟩) (fun v7 S6 hf H locs hH => ?_)
      exact vx_ret (q_retI X hH hr hlk hf (Nat.le_trans (Nat.le_add_right _ _) hB.1) (Nat.le_trans (Nat.le_add_right _ _) hB.2) dX7_ifMoved_29)
    · have hf := (if_pos c4).mp hf
      exact q_throw X hH hl hB rfl rfl hst (hGE _ _ _ X.2.2.2.2) hf tw_1106 tw_111 (text := "there is no such household") (List.mem_of_getElem? (i := 1) rfl) xa_IndexOutOfBoundsException xg_IndexOutOfBoundsException (by decide +kernel) (by decide +kernel) dX7_ifMoved_11 dX7_ifMoved_14 dX7_ifMoved_15 dX7_ifMoved_17 dX7_ifMoved_20 htab ⟨Nat.le_of_ble_eq_true rfl, Nat.le_of_ble_eq_true rfl⟩ (Nat.le_of_ble_eq_true rfl) hlk
  exact main s.heap [] ls 0 0 mc ms hf hH hl ⟨by omega, by omega⟩
-- X7_parts
def f_X7_parts_J33 (post : Int32 → PS → Prop) (g4 : PS → Nat → Int32 → Int32 → Prop) (S : PS) (l0 : Nat) (l1 : Int32) (l2 : Int32) : Prop :=
  g4 S l0 l1 (l2 + 1)
def f_X7_parts_L4 (post : Int32 → PS → Prop) : Nat → PS → Nat → Int32 → Int32 → Prop
  | 0, _, _, _, _ => False
  | n + 1, S, l0, l1, l2 =>
  gR S l0 11 0 fun v1 => (
  gI S v1 10 1 fun v2 => (
  if v2 ≤ l2 then
    post l1 S
  else
    gR S l0 11 0 fun v4 => (
    isO S v4 10 (
    f_X6_reachOf S v4 l2 fun v6 S5 => (
    f_X7_lowestOf S5 v6 fun v8 S7 => (
    if v8 = l2 then
      f_X7_parts_J33 post (f_X7_parts_L4 post n) S7 l0 (l1 + 1) l2
    else
      f_X7_parts_J33 post (f_X7_parts_L4 post n) S7 l0 l1 l2))))))
def f_X7_parts (S : PS) (a0 : Nat) (post : Int32 → PS → Prop) : Prop :=
  f_X7_parts_L4 post 4096 S a0 0 0
abbrev rm_X7_parts : Room := { frames := 4, cells := 0, slots := 0, locals := 91 }
set_option maxHeartbeats 4000000 in
set_option maxRecDepth 100000 in
theorem c_X7_parts (l : Launch) (D : va_G) (cy : Nat → ClassId) (G : p_GT) (hG : p_ok G) (S : PS) (a0 : Nat) (post : Int32 → PS → Prop) (sz : Nat) (hf : f_X7_parts S a0 post) : p_Mi l D cy G S sz yX7_parts (Cond.code yX7_parts cX7_parts 3 (some .int) :: wG) rm_X7_parts [.ref a0] 0 0 post := by
  refine q_start hG (Qc := fun A => va_Qi post (p_Post D cy A) A) mf_X7_parts (Nat.le_of_ble_eq_true rfl) (own := RX7) rfl ?_
  intro p e s m below meth c A X hr hlk hnm ls hl hH
  have hx := X.1.1
  have hb := X.1.2.1
  replace hl : lv_has ls 3 [(0, .ref a0)] := hl
  obtain ⟨H, hHe⟩ : ∃ H, H = s.heap := ⟨_, rfl⟩
  obtain ⟨locs, hlo⟩ : ∃ locs : List Loc, locs = [] := ⟨_, rfl⟩
  rw [← hHe, ← hlo] at hH
  show W p l e rm_X7_parts s m [.ref a0].toArray below meth c s.heap [] 0 0 _ _
  rw [← hHe, ← hlo]
  have hL4 : ∀ (n4 : Nat) (S : PS) (l0 : Nat) (l1 : Int32) (l2 : Int32), f_X7_parts_L4 post n4 S l0 l1 l2 → ∀ (H : Heap) (locs : List Loc) (ls : Array Slot), p_H D cy S A s H locs → lv_has ls 3 [(0, .ref l0), (1, .int l1), (2, .int l2)] → W p l e rm_X7_parts s m [.ref a0].toArray below meth c H locs 0 0 (MQ below (va_Qi post (p_Post D cy A) A) [.ref a0].toArray s 0 0 A) (F0 m 4 ls []) := by
    intro n4
    induction n4 with
    | zero => intro S l0 l1 l2 hf; exact hf.elim
    | succ n4 ih4 =>
      intro S l0 l1 l2 hf H locs ls hH hl
      have hJ33 : ∀ (S : PS) (l0 : Nat) (l1 : Int32) (l2 : Int32), f_X7_parts_J33 post (f_X7_parts_L4 post n4) S l0 l1 l2 → ∀ (H : Heap) (locs : List Loc) (ls : Array Slot), p_H D cy S A s H locs → lv_has ls 3 [(0, .ref l0), (1, .int l1), (2, .int l2)] → W p l e rm_X7_parts s m [.ref a0].toArray below meth c H locs 0 0 (MQ below (va_Qi post (p_Post D cy A) A) [.ref a0].toArray s 0 0 A) (F0 m 33 ls []) := by
        intro S l0 l1 l2 hf H locs ls hH hl
        refine lv_iinc (v := l2 + 1) (lv' := [(2, .int (l2 + 1)), (0, .ref l0), (1, .int l1)]) hx hb dX7_parts_33 hl (k := 2) rfl rfl (by decide) rfl (fun ls hl => ?_)
        refine lv_goto (tgt := 4) hx hb dX7_parts_36 (by decide) ?_
        exact ih4 S l0 l1 (l2 + 1) hf H locs ls hH (lv_sub hl [1, 2, 0] rfl)
      refine lv_iload_n hx hb dX7_parts_4 rfl (lv_at hl 2 rfl) ?_
      refine lv_aload_n hx hb dX7_parts_5 rfl (lv_at hl 0 rfl) ?_
      refine q_getR (T := TX7) (N := 12) X hH hf iw_X7 rfl (by decide) tw_319 (fun _ h => h) dX7_parts_6 (fun v1 hf => ?_)
      refine q_getIN (T := TX6) (N := 6) X hH hf iw_X6 rfl (by decide) (List.mem_of_getElem? (i := 0) rfl) (fun _ h => h) dX7_parts_9 (fun v2 hf => ?_)
      refine lv_icmp_ge (tgt := 39) hx hb dX7_parts_12 (by decide) (fun c3 => ?_) (fun c3 => ?_)
      · have hf := (if_pos c3).mp hf
        refine lv_iload_n hx hb dX7_parts_39 rfl (lv_at hl 1 rfl) ?_
        exact q_retI X hH hr hlk hf (Nat.zero_le _) (Nat.zero_le _) dX7_parts_40
      · have hf := (if_neg c3).mp hf
        refine lv_aload_n hx hb dX7_parts_15 rfl (lv_at hl 0 rfl) ?_
        refine q_getR (T := TX7) (N := 12) X hH hf iw_X7 rfl (by decide) tw_319 (fun _ h => h) dX7_parts_16 (fun v4 hf => ?_)
        refine lv_iload_n hx hb dX7_parts_19 rfl (lv_at hl 2 rfl) ?_
        obtain ⟨hb1, hb2, hf⟩ := hf
        refine q_backI0 X hH (q_runV [.int l2] [] X hH hl (c_X6_reachOf l D cy G X.2.2.2.1 S v4 l2 _ _ hf) mf_X6_reachOf mv_X6_reachOf tw_415 ⟨Nat.le_of_ble_eq_true rfl, Nat.le_of_ble_eq_true rfl⟩ hb1 hb2 (T := TX6) (N := 6) rfl rfl (Nat.le_of_ble_eq_true rfl) dX7_parts_20 ⟨Nat.le_of_ble_eq_true rfl, Nat.le_of_ble_eq_true rfl⟩) (fun v6 S5 hf H locs hH => ?_)
        refine q_backI0 X hH (q_runS [.int v6] [] X hH hl (c_X7_lowestOf l D cy G X.2.2.2.1 S5 v6 _ _ hf) mf_X7_lowestOf tw_420 tw_419 ⟨Nat.le_of_ble_eq_true rfl, Nat.le_of_ble_eq_true rfl⟩ rfl (Nat.le_of_ble_eq_true rfl) dX7_parts_23 ⟨Nat.le_of_ble_eq_true rfl, Nat.le_of_ble_eq_true rfl⟩) (fun v8 S7 hf H locs hH => ?_)
        refine lv_iload_n hx hb dX7_parts_26 rfl (lv_at hl 2 rfl) ?_
        refine lv_icmp_ne (tgt := 33) hx hb dX7_parts_27 (by decide) (fun c9 => ?_) (fun c9 => ?_)
        · have hf := (if_neg c9).mp hf
          exact hJ33 S7 l0 l1 l2 hf H locs ls hH hl
        · have hf := (if_pos c9).mp hf
          refine lv_iinc (v := l1 + 1) (lv' := [(1, .int (l1 + 1)), (0, .ref l0), (2, .int l2)]) hx hb dX7_parts_30 hl (k := 1) rfl rfl (by decide) rfl (fun ls hl => ?_)
          exact hJ33 S7 l0 (l1 + 1) l2 hf H locs ls hH (lv_sub hl [1, 0, 2] rfl)
  refine lv_iconst (v := 0) hx hb dX7_parts_0 (by decide) ?_
  refine lv_istore_n (lv' := [(1, .int 0), (0, .ref a0)]) hx hb dX7_parts_1 rfl hl (by decide) rfl (fun ls hl => ?_)
  refine lv_iconst (v := 0) hx hb dX7_parts_2 (by decide) ?_
  refine lv_istore_n (lv' := [(2, .int 0), (1, .int 0), (0, .ref a0)]) hx hb dX7_parts_3 rfl hl (by decide) rfl (fun ls hl => ?_)
  exact hL4 4096 S a0 0 0 hf H locs ls hH (lv_sub hl [2, 1, 0] rfl)
-- X7_partOf
def f_X7_partOf (S : PS) (a0 : Nat) (a1 : Int32) (bc bs : Nat) (post : Int32 → PS → Prop) (postX : String → PS → Prop) : Prop :=
  gR S a0 11 0 fun v1 => (
  isO S v1 10 (
  f_X6_has S v1 a1 fun v3 S2 => (
  if v3 = 0 then
    tX S2 "java/lang/IndexOutOfBoundsException" bc bs postX
  else
    gR S2 a0 11 0 fun v5 => (
    isO S2 v5 10 (
    f_X6_reachOf S2 v5 a1 fun v7 S6 => (
    post v7 S6))))))
abbrev rm_X7_partOf (mc ms : Nat) : Room := { frames := 6, cells := mc, slots := ms, locals := 91 }
set_option maxHeartbeats 4000000 in
set_option maxRecDepth 100000 in
theorem c_X7_partOf (l : Launch) (D : va_G) (cy : Nat → ClassId) (G : p_GT) (hG : p_ok G) (hst : l.stackTraces = false) (hGE : ∀ (A : Nat → Prop) (U : State) (H : Heap), G A U H → p_Ex A U H) (S : PS) (a0 : Nat) (a1 : Int32) (mc ms : Nat) (post : Int32 → PS → Prop) (postX : String → PS → Prop) (sz : Nat) (hf : f_X7_partOf S a0 a1 mc ms post postX) : p_Xi l D cy G S sz yX7_partOf (Cond.code yX7_partOf cX7_partOf 2 (some .int) :: wG) (rm_X7_partOf mc ms) [.ref a0, .int a1] mc ms post postX := by
  refine q_startX hG (Qc := fun A => va_Qi post (p_Post D cy A) A) (XC := fun A => p_XC D cy A postX) mf_X7_partOf (Nat.le_of_ble_eq_true rfl) (own := RX7) rfl ?_
  intro p e s m below meth c A X hr hlk hnm htab ls hl hH
  have hx := X.1.1
  have hb := X.1.2.1
  replace hl : lv_has ls 2 [(0, .ref a0), (1, .int a1)] := hl
  have main : ∀ (H : Heap) (locs : List Loc) (ls : Array Slot) (cells slots bc bs : Nat), f_X7_partOf S a0 a1 bc bs post postX → p_H D cy S A s H locs → lv_has ls 2 [(0, .ref a0), (1, .int a1)] → cells + bc ≤ mc ∧ slots + bs ≤ ms → W p l e (rm_X7_partOf mc ms) s m [.ref a0, .int a1].toArray below meth c H locs cells slots (vx_MQ below (va_Qi post (p_Post D cy A) A) (p_XC D cy A postX) [.ref a0, .int a1].toArray s mc ms A) (F0 m 0 ls []) := by
    intro H locs ls cells slots bc bs hf hH hl hB
    refine lv_aload_n hx hb dX7_partOf_0 rfl (lv_at hl 0 rfl) ?_
    refine q_getR (T := TX7) (N := 12) X hH hf iw_X7 rfl (by decide) tw_319 (fun _ h => h) dX7_partOf_1 (fun v1 hf => ?_)
    refine lv_iload_n hx hb dX7_partOf_4 rfl (lv_at hl 1 rfl) ?_
    obtain ⟨hb1, hb2, hf⟩ := hf
    refine q_backI0 X hH (q_runV [.int a1] [] X hH hl (c_X6_has l D cy G X.2.2.2.1 S v1 a1 _ _ hf) mf_X6_has mv_X6_has tw_973 ⟨Nat.le_of_ble_eq_true rfl, Nat.le_of_ble_eq_true rfl⟩ hb1 hb2 (T := TX6) (N := 6) rfl rfl (Nat.le_of_ble_eq_true rfl) dX7_partOf_5 ⟨Nat.le_trans (Nat.le_add_right _ _) hB.1, Nat.le_trans (Nat.le_add_right _ _) hB.2⟩) (fun v3 S2 hf H locs hH => ?_)
    refine lv_if_ne (tgt := 21) hx hb dX7_partOf_8 (by decide) (fun c4 => ?_) (fun c4 => ?_)
    · have hf := (if_neg c4).mp hf
      refine lv_aload_n hx hb dX7_partOf_21 rfl (lv_at hl 0 rfl) ?_
      refine q_getR (T := TX7) (N := 12) X hH hf iw_X7 rfl (by decide) tw_319 (fun _ h => h) dX7_partOf_22 (fun v5 hf => ?_)
      refine lv_iload_n hx hb dX7_partOf_25 rfl (lv_at hl 1 rfl) ?_
      obtain ⟨hb1, hb2, hf⟩ := hf
      refine q_backI0 X hH (q_runV [.int a1] [] X hH hl (c_X6_reachOf l D cy G X.2.2.2.1 S2 v5 a1 _ _ hf) mf_X6_reachOf mv_X6_reachOf tw_415 ⟨Nat.le_of_ble_eq_true rfl, Nat.le_of_ble_eq_true rfl⟩ hb1 hb2 (T := TX6) (N := 6) rfl rfl (Nat.le_of_ble_eq_true rfl) dX7_partOf_26 ⟨Nat.le_trans (Nat.le_add_right _ _) hB.1, Nat.le_trans (Nat.le_add_right _ _) hB.2⟩) (fun v7 S6 hf H locs hH => ?_)
      exact vx_ret (q_retI X hH hr hlk hf (Nat.le_trans (Nat.le_add_right _ _) hB.1) (Nat.le_trans (Nat.le_add_right _ _) hB.2) dX7_partOf_29)
    · have hf := (if_pos c4).mp hf
      exact q_throw X hH hl hB rfl rfl hst (hGE _ _ _ X.2.2.2.2) hf tw_1106 tw_111 (text := "there is no such household") (List.mem_of_getElem? (i := 1) rfl) xa_IndexOutOfBoundsException xg_IndexOutOfBoundsException (by decide +kernel) (by decide +kernel) dX7_partOf_11 dX7_partOf_14 dX7_partOf_15 dX7_partOf_17 dX7_partOf_20 htab ⟨Nat.le_of_ble_eq_true rfl, Nat.le_of_ble_eq_true rfl⟩ (Nat.le_of_ble_eq_true rfl) hlk
  exact main s.heap [] ls 0 0 mc ms hf hH hl ⟨by omega, by omega⟩
-- X7_account
def f_X7_account (S : PS) (a0 : Nat) (a1 : Int32) (bc bs : Nat) (post : Int32 → PS → Prop) (postX : String → PS → Prop) : Prop :=
  if a1 = 0 then
    gR S a0 11 0 fun v2 => (
    gI S v2 10 1 fun v3 => (
    post v3 S))
  else
  if a1 = 1 then
    gR S a0 11 0 fun v5 => (
    isO S v5 10 (
    f_X6_bondCount S v5 fun v7 S6 => (
    post v7 S6)))
  else
  if a1 = 2 then
    gR S a0 11 0 fun v9 => (
    isO S v9 10 (
    f_X6_weightSum S v9 fun v11 S10 => (
    post v11 S10)))
  else
  if a1 = 3 then
    gR S a0 11 0 fun v13 => (
    gI S v13 10 2 fun v14 => (
    f_J6_bitCount_0f7a4 S v14 fun v16 S15 => (
    post v16 S15)))
  else
  if a1 = 4 then
    gR S a0 11 0 fun v18 => (
    isO S v18 10 (
    f_X6_bondsAcross S v18 fun v20 S19 => (
    post v20 S19)))
  else
  if a1 = 5 then
    gR S a0 11 0 fun v22 => (
    gI S v22 10 3 fun v23 => (
    post v23 S))
  else
  if a1 = 6 then
    gR S a0 11 0 fun v25 => (
    gI S v25 10 4 fun v26 => (
    post v26 S))
  else
  if a1 = 7 then
    gR S a0 11 0 fun v28 => (
    gI S v28 10 5 fun v29 => (
    post v29 S))
  else
  if a1 = 8 then
    gR S a0 11 0 fun v31 => (
    isO S v31 10 (
    f_X6_lonelyCount S v31 fun v33 S32 => (
    post v33 S32)))
  else
  if a1 = 9 then
    gR S a0 11 7 fun v35 => (
    isO S v35 9 (
    f_X5_length S v35 fun v37 S36 => (
    post v37 S36)))
  else
  if a1 = 10 then
    gR S a0 11 3 fun v39 => (
    isO S v39 6 (
    f_X2_count S v39 fun v41 S40 => (
    post v41 S40)))
  else
    tX S "java/lang/IllegalArgumentException" bc bs postX
abbrev rm_X7_account (mc ms : Nat) : Room := { frames := 6, cells := mc, slots := ms, locals := 90 }
set_option maxHeartbeats 4000000 in
set_option maxRecDepth 100000 in
theorem c_X7_account (l : Launch) (D : va_G) (cy : Nat → ClassId) (G : p_GT) (hG : p_ok G) (hst : l.stackTraces = false) (hGE : ∀ (A : Nat → Prop) (U : State) (H : Heap), G A U H → p_Ex A U H) (S : PS) (a0 : Nat) (a1 : Int32) (mc ms : Nat) (post : Int32 → PS → Prop) (postX : String → PS → Prop) (sz : Nat) (hf : f_X7_account S a0 a1 mc ms post postX) : p_Xi l D cy G S sz yX7_account (Cond.code yX7_account cX7_account 2 (some .int) :: wG) (rm_X7_account mc ms) [.ref a0, .int a1] mc ms post postX := by
  refine q_startX hG (Qc := fun A => va_Qi post (p_Post D cy A) A) (XC := fun A => p_XC D cy A postX) mf_X7_account (Nat.le_of_ble_eq_true rfl) (own := RX7) rfl ?_
  intro p e s m below meth c A X hr hlk hnm htab ls hl hH
  have hx := X.1.1
  have hb := X.1.2.1
  replace hl : lv_has ls 2 [(0, .ref a0), (1, .int a1)] := hl
  have main : ∀ (H : Heap) (locs : List Loc) (ls : Array Slot) (cells slots bc bs : Nat), f_X7_account S a0 a1 bc bs post postX → p_H D cy S A s H locs → lv_has ls 2 [(0, .ref a0), (1, .int a1)] → cells + bc ≤ mc ∧ slots + bs ≤ ms → W p l e (rm_X7_account mc ms) s m [.ref a0, .int a1].toArray below meth c H locs cells slots (vx_MQ below (va_Qi post (p_Post D cy A) A) (p_XC D cy A postX) [.ref a0, .int a1].toArray s mc ms A) (F0 m 0 ls []) := by
    intro H locs ls cells slots bc bs hf hH hl hB
    refine lv_iload_n hx hb dX7_account_0 rfl (lv_at hl 1 rfl) ?_
    by_cases c1 : a1 = 0
    · have hf := (if_pos c1).mp hf
      refine lv_tableIn (off := 59) (tgt := 60) hx hb dX7_account_1 (by rw [c1]; decide) (by rw [c1]; decide) (by rw [c1]; rfl) (by decide) ?_
      refine lv_aload_n hx hb dX7_account_60 rfl (lv_at hl 0 rfl) ?_
      refine q_getR (T := TX7) (N := 12) X hH hf iw_X7 rfl (by decide) tw_319 (fun _ h => h) dX7_account_61 (fun v2 hf => ?_)
      refine q_getIN (T := TX6) (N := 6) X hH hf iw_X6 rfl (by decide) (List.mem_of_getElem? (i := 0) rfl) (fun _ h => h) dX7_account_64 (fun v3 hf => ?_)
      exact vx_ret (q_retI X hH hr hlk hf (Nat.le_trans (Nat.le_add_right _ _) hB.1) (Nat.le_trans (Nat.le_add_right _ _) hB.2) dX7_account_67)
    · have hf := (if_neg c1).mp hf
      by_cases c4 : a1 = 1
      · have hf := (if_pos c4).mp hf
        refine lv_tableIn (off := 67) (tgt := 68) hx hb dX7_account_1 (by rw [c4]; decide) (by rw [c4]; decide) (by rw [c4]; rfl) (by decide) ?_
        refine lv_aload_n hx hb dX7_account_68 rfl (lv_at hl 0 rfl) ?_
        refine q_getR (T := TX7) (N := 12) X hH hf iw_X7 rfl (by decide) tw_319 (fun _ h => h) dX7_account_69 (fun v5 hf => ?_)
        obtain ⟨hb1, hb2, hf⟩ := hf
        refine q_backI0 X hH (q_runV [] [] X hH hl (c_X6_bondCount l D cy G X.2.2.2.1 S v5 _ _ hf) mf_X6_bondCount mv_X6_bondCount tw_978 ⟨Nat.le_of_ble_eq_true rfl, Nat.le_of_ble_eq_true rfl⟩ hb1 hb2 (T := TX6) (N := 6) rfl rfl (Nat.le_of_ble_eq_true rfl) dX7_account_72 ⟨Nat.le_trans (Nat.le_add_right _ _) hB.1, Nat.le_trans (Nat.le_add_right _ _) hB.2⟩) (fun v7 S6 hf H locs hH => ?_)
        exact vx_ret (q_retI X hH hr hlk hf (Nat.le_trans (Nat.le_add_right _ _) hB.1) (Nat.le_trans (Nat.le_add_right _ _) hB.2) dX7_account_75)
      · have hf := (if_neg c4).mp hf
        by_cases c8 : a1 = 2
        · have hf := (if_pos c8).mp hf
          refine lv_tableIn (off := 75) (tgt := 76) hx hb dX7_account_1 (by rw [c8]; decide) (by rw [c8]; decide) (by rw [c8]; rfl) (by decide) ?_
          refine lv_aload_n hx hb dX7_account_76 rfl (lv_at hl 0 rfl) ?_
          refine q_getR (T := TX7) (N := 12) X hH hf iw_X7 rfl (by decide) tw_319 (fun _ h => h) dX7_account_77 (fun v9 hf => ?_)
          obtain ⟨hb1, hb2, hf⟩ := hf
          refine q_backI0 X hH (q_runV [] [] X hH hl (c_X6_weightSum l D cy G X.2.2.2.1 S v9 _ _ hf) mf_X6_weightSum mv_X6_weightSum tw_1526 ⟨Nat.le_of_ble_eq_true rfl, Nat.le_of_ble_eq_true rfl⟩ hb1 hb2 (T := TX6) (N := 6) rfl rfl (Nat.le_of_ble_eq_true rfl) dX7_account_80 ⟨Nat.le_trans (Nat.le_add_right _ _) hB.1, Nat.le_trans (Nat.le_add_right _ _) hB.2⟩) (fun v11 S10 hf H locs hH => ?_)
          exact vx_ret (q_retI X hH hr hlk hf (Nat.le_trans (Nat.le_add_right _ _) hB.1) (Nat.le_trans (Nat.le_add_right _ _) hB.2) dX7_account_83)
        · have hf := (if_neg c8).mp hf
          by_cases c12 : a1 = 3
          · have hf := (if_pos c12).mp hf
            refine lv_tableIn (off := 83) (tgt := 84) hx hb dX7_account_1 (by rw [c12]; decide) (by rw [c12]; decide) (by rw [c12]; rfl) (by decide) ?_
            refine lv_aload_n hx hb dX7_account_84 rfl (lv_at hl 0 rfl) ?_
            refine q_getR (T := TX7) (N := 12) X hH hf iw_X7 rfl (by decide) tw_319 (fun _ h => h) dX7_account_85 (fun v13 hf => ?_)
            refine q_getIN (T := TX6) (N := 6) X hH hf iw_X6 rfl (by decide) (List.mem_of_getElem? (i := 1) rfl) (fun _ h => h) dX7_account_88 (fun v14 hf => ?_)
            refine q_backI0 X hH (q_runS [.int v14] [] X hH hl (c_J6_bitCount_0f7a4 l D cy G X.2.2.2.1 S v14 _ _ hf) mf_J6_bitCount_0f7a4 tw_1531 tw_1530 ⟨Nat.le_of_ble_eq_true rfl, Nat.le_of_ble_eq_true rfl⟩ rfl (Nat.le_of_ble_eq_true rfl) dX7_account_91 ⟨Nat.le_trans (Nat.le_add_right _ _) hB.1, Nat.le_trans (Nat.le_add_right _ _) hB.2⟩) (fun v16 S15 hf H locs hH => ?_)
            exact vx_ret (q_retI X hH hr hlk hf (Nat.le_trans (Nat.le_add_right _ _) hB.1) (Nat.le_trans (Nat.le_add_right _ _) hB.2) dX7_account_94)
          · have hf := (if_neg c12).mp hf
            by_cases c17 : a1 = 4
            · have hf := (if_pos c17).mp hf
              refine lv_tableIn (off := 94) (tgt := 95) hx hb dX7_account_1 (by rw [c17]; decide) (by rw [c17]; decide) (by rw [c17]; rfl) (by decide) ?_
              refine lv_aload_n hx hb dX7_account_95 rfl (lv_at hl 0 rfl) ?_
              refine q_getR (T := TX7) (N := 12) X hH hf iw_X7 rfl (by decide) tw_319 (fun _ h => h) dX7_account_96 (fun v18 hf => ?_)
              obtain ⟨hb1, hb2, hf⟩ := hf
              refine q_backI0 X hH (q_runV [] [] X hH hl (c_X6_bondsAcross l D cy G X.2.2.2.1 S v18 _ _ hf) mf_X6_bondsAcross mv_X6_bondsAcross tw_1536 ⟨Nat.le_of_ble_eq_true rfl, Nat.le_of_ble_eq_true rfl⟩ hb1 hb2 (T := TX6) (N := 6) rfl rfl (Nat.le_of_ble_eq_true rfl) dX7_account_99 ⟨Nat.le_trans (Nat.le_add_right _ _) hB.1, Nat.le_trans (Nat.le_add_right _ _) hB.2⟩) (fun v20 S19 hf H locs hH => ?_)
              exact vx_ret (q_retI X hH hr hlk hf (Nat.le_trans (Nat.le_add_right _ _) hB.1) (Nat.le_trans (Nat.le_add_right _ _) hB.2) dX7_account_102)
            · have hf := (if_neg c17).mp hf
              by_cases c21 : a1 = 5
              · have hf := (if_pos c21).mp hf
                refine lv_tableIn (off := 102) (tgt := 103) hx hb dX7_account_1 (by rw [c21]; decide) (by rw [c21]; decide) (by rw [c21]; rfl) (by decide) ?_
                refine lv_aload_n hx hb dX7_account_103 rfl (lv_at hl 0 rfl) ?_
                refine q_getR (T := TX7) (N := 12) X hH hf iw_X7 rfl (by decide) tw_319 (fun _ h => h) dX7_account_104 (fun v22 hf => ?_)
                refine q_getIN (T := TX6) (N := 6) X hH hf iw_X6 rfl (by decide) (List.mem_of_getElem? (i := 2) rfl) (fun _ h => h) dX7_account_107 (fun v23 hf => ?_)
                exact vx_ret (q_retI X hH hr hlk hf (Nat.le_trans (Nat.le_add_right _ _) hB.1) (Nat.le_trans (Nat.le_add_right _ _) hB.2) dX7_account_110)
              · have hf := (if_neg c21).mp hf
                by_cases c24 : a1 = 6
                · have hf := (if_pos c24).mp hf
                  refine lv_tableIn (off := 110) (tgt := 111) hx hb dX7_account_1 (by rw [c24]; decide) (by rw [c24]; decide) (by rw [c24]; rfl) (by decide) ?_
                  refine lv_aload_n hx hb dX7_account_111 rfl (lv_at hl 0 rfl) ?_
                  refine q_getR (T := TX7) (N := 12) X hH hf iw_X7 rfl (by decide) tw_319 (fun _ h => h) dX7_account_112 (fun v25 hf => ?_)
                  refine q_getIN (T := TX6) (N := 6) X hH hf iw_X6 rfl (by decide) (List.mem_of_getElem? (i := 3) rfl) (fun _ h => h) dX7_account_115 (fun v26 hf => ?_)
                  exact vx_ret (q_retI X hH hr hlk hf (Nat.le_trans (Nat.le_add_right _ _) hB.1) (Nat.le_trans (Nat.le_add_right _ _) hB.2) dX7_account_118)
                · have hf := (if_neg c24).mp hf
                  by_cases c27 : a1 = 7
                  · have hf := (if_pos c27).mp hf
                    refine lv_tableIn (off := 118) (tgt := 119) hx hb dX7_account_1 (by rw [c27]; decide) (by rw [c27]; decide) (by rw [c27]; rfl) (by decide) ?_
                    refine lv_aload_n hx hb dX7_account_119 rfl (lv_at hl 0 rfl) ?_
                    refine q_getR (T := TX7) (N := 12) X hH hf iw_X7 rfl (by decide) tw_319 (fun _ h => h) dX7_account_120 (fun v28 hf => ?_)
                    refine q_getIN (T := TX6) (N := 6) X hH hf iw_X6 rfl (by decide) (List.mem_of_getElem? (i := 4) rfl) (fun _ h => h) dX7_account_123 (fun v29 hf => ?_)
                    exact vx_ret (q_retI X hH hr hlk hf (Nat.le_trans (Nat.le_add_right _ _) hB.1) (Nat.le_trans (Nat.le_add_right _ _) hB.2) dX7_account_126)
                  · have hf := (if_neg c27).mp hf
                    by_cases c30 : a1 = 8
                    · have hf := (if_pos c30).mp hf
                      refine lv_tableIn (off := 126) (tgt := 127) hx hb dX7_account_1 (by rw [c30]; decide) (by rw [c30]; decide) (by rw [c30]; rfl) (by decide) ?_
                      refine lv_aload_n hx hb dX7_account_127 rfl (lv_at hl 0 rfl) ?_
                      refine q_getR (T := TX7) (N := 12) X hH hf iw_X7 rfl (by decide) tw_319 (fun _ h => h) dX7_account_128 (fun v31 hf => ?_)
                      obtain ⟨hb1, hb2, hf⟩ := hf
                      refine q_backI0 X hH (q_runV [] [] X hH hl (c_X6_lonelyCount l D cy G X.2.2.2.1 S v31 _ _ hf) mf_X6_lonelyCount mv_X6_lonelyCount tw_1540 ⟨Nat.le_of_ble_eq_true rfl, Nat.le_of_ble_eq_true rfl⟩ hb1 hb2 (T := TX6) (N := 6) rfl rfl (Nat.le_of_ble_eq_true rfl) dX7_account_131 ⟨Nat.le_trans (Nat.le_add_right _ _) hB.1, Nat.le_trans (Nat.le_add_right _ _) hB.2⟩) (fun v33 S32 hf H locs hH => ?_)
                      exact vx_ret (q_retI X hH hr hlk hf (Nat.le_trans (Nat.le_add_right _ _) hB.1) (Nat.le_trans (Nat.le_add_right _ _) hB.2) dX7_account_134)
                    · have hf := (if_neg c30).mp hf
                      by_cases c34 : a1 = 9
                      · have hf := (if_pos c34).mp hf
                        refine lv_tableIn (off := 134) (tgt := 135) hx hb dX7_account_1 (by rw [c34]; decide) (by rw [c34]; decide) (by rw [c34]; rfl) (by decide) ?_
                        refine lv_aload_n hx hb dX7_account_135 rfl (lv_at hl 0 rfl) ?_
                        refine q_getR (T := TX7) (N := 12) X hH hf iw_X7 rfl (by decide) tw_326 (fun _ h => h) dX7_account_136 (fun v35 hf => ?_)
                        obtain ⟨hb1, hb2, hf⟩ := hf
                        refine q_backI0 X hH (q_runV [] [] X hH hl (c_X5_length l D cy G X.2.2.2.1 S v35 _ _ hf) mf_X5_length mv_X5_length tw_1369 ⟨Nat.le_of_ble_eq_true rfl, Nat.le_of_ble_eq_true rfl⟩ hb1 hb2 (T := TX5) (N := 7) rfl rfl (Nat.le_of_ble_eq_true rfl) dX7_account_139 ⟨Nat.le_trans (Nat.le_add_right _ _) hB.1, Nat.le_trans (Nat.le_add_right _ _) hB.2⟩) (fun v37 S36 hf H locs hH => ?_)
                        exact vx_ret (q_retI X hH hr hlk hf (Nat.le_trans (Nat.le_add_right _ _) hB.1) (Nat.le_trans (Nat.le_add_right _ _) hB.2) dX7_account_142)
                      · have hf := (if_neg c34).mp hf
                        by_cases c38 : a1 = 10
                        · have hf := (if_pos c38).mp hf
                          refine lv_tableIn (off := 142) (tgt := 143) hx hb dX7_account_1 (by rw [c38]; decide) (by rw [c38]; decide) (by rw [c38]; rfl) (by decide) ?_
                          refine lv_aload_n hx hb dX7_account_143 rfl (lv_at hl 0 rfl) ?_
                          refine q_getR (T := TX7) (N := 12) X hH hf iw_X7 rfl (by decide) tw_322 (fun _ h => h) dX7_account_144 (fun v39 hf => ?_)
                          obtain ⟨hb1, hb2, hf⟩ := hf
                          refine q_backI0 X hH (q_runV [] [] X hH hl (c_X2_count l D cy G X.2.2.2.1 S v39 _ _ hf) mf_X2_count mv_X2_count tw_1544 ⟨Nat.le_of_ble_eq_true rfl, Nat.le_of_ble_eq_true rfl⟩ hb1 hb2 (T := TX2) (N := 3) rfl rfl (Nat.le_of_ble_eq_true rfl) dX7_account_147 ⟨Nat.le_trans (Nat.le_add_right _ _) hB.1, Nat.le_trans (Nat.le_add_right _ _) hB.2⟩) (fun v41 S40 hf H locs hH => ?_)
                          exact vx_ret (q_retI X hH hr hlk hf (Nat.le_trans (Nat.le_add_right _ _) hB.1) (Nat.le_trans (Nat.le_add_right _ _) hB.2) dX7_account_150)
                        · have hf := (if_neg c38).mp hf
                          refine lv_tableOut (tgt := 151) hx hb dX7_account_1 (by have z0 := lv_neT c1 (a := 0) rfl; have z1 := lv_neT c4 (a := 1) rfl; have z2 := lv_neT c8 (a := 2) rfl; have z3 := lv_neT c12 (a := 3) rfl; have z4 := lv_neT c17 (a := 4) rfl; have z5 := lv_neT c21 (a := 5) rfl; have z6 := lv_neT c24 (a := 6) rfl; have z7 := lv_neT c27 (a := 7) rfl; have z8 := lv_neT c30 (a := 8) rfl; have z9 := lv_neT c34 (a := 9) rfl; have z10 := lv_neT c38 (a := 10) rfl; omega) (by decide) ?_
                          exact q_throwW X hH hl hB rfl rfl hst (hGE _ _ _ X.2.2.2.2) hf tw_1134 tw_113 (text := "what is not 0 to 10") (List.mem_of_getElem? (i := 26) rfl) xa_IllegalArgumentException xg_IllegalArgumentException (by decide +kernel) (by decide +kernel) dX7_account_151 dX7_account_154 dX7_account_155 dX7_account_158 dX7_account_161 htab ⟨Nat.le_of_ble_eq_true rfl, Nat.le_of_ble_eq_true rfl⟩ (Nat.le_of_ble_eq_true rfl) hlk
  exact main s.heap [] ls 0 0 mc ms hf hH hl ⟨by omega, by omega⟩
-- X7_meanWeight
def f_X7_meanWeight (S : PS) (a0 : Nat) (bc bs : Nat) (post : UInt64 → PS → Prop) (postX : String → PS → Prop) : Prop :=
  gR S a0 11 0 fun v1 => (
  isO S v1 10 (
  f_X6_bondCount S v1 fun v3 S2 => (
  if v3 = 0 then
    tX S2 "java/lang/ArithmeticException" bc bs postX
  else
    gR S2 a0 11 0 fun v5 => (
    isO S2 v5 10 (
    f_X6_weightSum S2 v5 fun v7 S6 => (
    vf_n64 (FP.ddiv (FP.i2d v7) (FP.i2d v3)) ∧ (
    post (FP.ddiv (FP.i2d v7) (FP.i2d v3)) S6)))))))
abbrev rm_X7_meanWeight (mc ms : Nat) : Room := { frames := 6, cells := mc, slots := ms, locals := 90 }
set_option maxHeartbeats 4000000 in
set_option maxRecDepth 100000 in
theorem c_X7_meanWeight (l : Launch) (D : va_G) (cy : Nat → ClassId) (G : p_GT) (hG : p_ok G) (hst : l.stackTraces = false) (hGE : ∀ (A : Nat → Prop) (U : State) (H : Heap), G A U H → p_Ex A U H) (S : PS) (a0 : Nat) (mc ms : Nat) (post : UInt64 → PS → Prop) (postX : String → PS → Prop) (sz : Nat) (hf : f_X7_meanWeight S a0 mc ms post postX) : p_Xd l D cy G S sz yX7_meanWeight (Cond.code yX7_meanWeight cX7_meanWeight 2 (some .double) :: wG) (rm_X7_meanWeight mc ms) [.ref a0] mc ms post postX := by
  refine q_startX hG (Qc := fun A => va_Qd post (p_Post D cy A) A) (XC := fun A => p_XC D cy A postX) mf_X7_meanWeight (Nat.le_of_ble_eq_true rfl) (own := RX7) rfl ?_
  intro p e s m below meth c A X hr hlk hnm htab ls hl hH
  have hx := X.1.1
  have hb := X.1.2.1
  replace hl : lv_has ls 2 [(0, .ref a0)] := hl
  have main : ∀ (H : Heap) (locs : List Loc) (ls : Array Slot) (cells slots bc bs : Nat), f_X7_meanWeight S a0 bc bs post postX → p_H D cy S A s H locs → lv_has ls 2 [(0, .ref a0)] → cells + bc ≤ mc ∧ slots + bs ≤ ms → W p l e (rm_X7_meanWeight mc ms) s m [.ref a0].toArray below meth c H locs cells slots (vx_MQ below (va_Qd post (p_Post D cy A) A) (p_XC D cy A postX) [.ref a0].toArray s mc ms A) (F0 m 0 ls []) := by
    intro H locs ls cells slots bc bs hf hH hl hB
    refine lv_aload_n hx hb dX7_meanWeight_0 rfl (lv_at hl 0 rfl) ?_
    refine q_getR (T := TX7) (N := 12) X hH hf iw_X7 rfl (by decide) tw_319 (fun _ h => h) dX7_meanWeight_1 (fun v1 hf => ?_)
    obtain ⟨hb1, hb2, hf⟩ := hf
    refine q_backI0 X hH (q_runV [] [] X hH hl (c_X6_bondCount l D cy G X.2.2.2.1 S v1 _ _ hf) mf_X6_bondCount mv_X6_bondCount tw_978 ⟨Nat.le_of_ble_eq_true rfl, Nat.le_of_ble_eq_true rfl⟩ hb1 hb2 (T := TX6) (N := 6) rfl rfl (Nat.le_of_ble_eq_true rfl) dX7_meanWeight_4 ⟨Nat.le_trans (Nat.le_add_right _ _) hB.1, Nat.le_trans (Nat.le_add_right _ _) hB.2⟩) (fun v3 S2 hf H locs hH => ?_)
    refine lv_istore_n (lv' := [(1, .int v3), (0, .ref a0)]) hx hb dX7_meanWeight_7 rfl hl (by decide) rfl (fun ls hl => ?_)
    refine lv_iload_n hx hb dX7_meanWeight_8 rfl (lv_at hl 0 rfl) ?_
    refine lv_if_ne (tgt := 22) hx hb dX7_meanWeight_9 (by decide) (fun c4 => ?_) (fun c4 => ?_)
    · have hf := (if_neg c4).mp hf
      refine lv_aload_n hx hb dX7_meanWeight_22 rfl (lv_at hl 1 rfl) ?_
      refine q_getR (T := TX7) (N := 12) X hH hf iw_X7 rfl (by decide) tw_319 (fun _ h => h) dX7_meanWeight_23 (fun v5 hf => ?_)
      obtain ⟨hb1, hb2, hf⟩ := hf
      refine q_backI0 X hH (q_runV [] [] X hH hl (c_X6_weightSum l D cy G X.2.2.2.1 S2 v5 _ _ hf) mf_X6_weightSum mv_X6_weightSum tw_1526 ⟨Nat.le_of_ble_eq_true rfl, Nat.le_of_ble_eq_true rfl⟩ hb1 hb2 (T := TX6) (N := 6) rfl rfl (Nat.le_of_ble_eq_true rfl) dX7_meanWeight_26 ⟨Nat.le_trans (Nat.le_add_right _ _) hB.1, Nat.le_trans (Nat.le_add_right _ _) hB.2⟩) (fun v7 S6 hf H locs hH => ?_)
      refine lv_i2d hx hb dX7_meanWeight_29 ?_
      refine lv_iload_n hx hb dX7_meanWeight_30 rfl (lv_at hl 0 rfl) ?_
      refine lv_i2d hx hb dX7_meanWeight_31 ?_
      refine lv_ddiv hx hb dX7_meanWeight_32 hf.1 ?_
      have hf := hf.2
      exact vx_ret (q_retD X hH hr hlk hf (Nat.le_trans (Nat.le_add_right _ _) hB.1) (Nat.le_trans (Nat.le_add_right _ _) hB.2) dX7_meanWeight_33)
    · have hf := (if_pos c4).mp hf
      exact q_throw X hH hl hB rfl rfl hst (hGE _ _ _ X.2.2.2.2) hf tw_1570 tw_123 (text := "there are no bonds") (List.mem_of_getElem? (i := 17) rfl) xa_ArithmeticException xg_ArithmeticException (by decide +kernel) (by decide +kernel) dX7_meanWeight_12 dX7_meanWeight_15 dX7_meanWeight_16 dX7_meanWeight_18 dX7_meanWeight_21 htab ⟨Nat.le_of_ble_eq_true rfl, Nat.le_of_ble_eq_true rfl⟩ (Nat.le_of_ble_eq_true rfl) hlk
  exact main s.heap [] ls 0 0 mc ms hf hH hl ⟨by omega, by omega⟩
-- X7_feudShare
def f_X7_feudShare (S : PS) (a0 : Nat) (bc bs : Nat) (post : UInt32 → PS → Prop) (postX : String → PS → Prop) : Prop :=
  gR S a0 11 0 fun v1 => (
  isO S v1 10 (
  f_X6_weightSum S v1 fun v3 S2 => (
  if v3 = 0 then
    tX S2 "java/lang/ArithmeticException" bc bs postX
  else
    gR S2 a0 11 0 fun v5 => (
    isO S2 v5 10 (
    f_X6_feudByBonds S2 v5 fun v7 S6 => (
    vf_n32 (FP.fdiv (FP.i2f v7) (FP.i2f v3)) ∧ (
    post (FP.fdiv (FP.i2f v7) (FP.i2f v3)) S6)))))))
abbrev rm_X7_feudShare (mc ms : Nat) : Room := { frames := 6, cells := mc, slots := ms, locals := 90 }
set_option maxHeartbeats 4000000 in
set_option maxRecDepth 100000 in
theorem c_X7_feudShare (l : Launch) (D : va_G) (cy : Nat → ClassId) (G : p_GT) (hG : p_ok G) (hst : l.stackTraces = false) (hGE : ∀ (A : Nat → Prop) (U : State) (H : Heap), G A U H → p_Ex A U H) (S : PS) (a0 : Nat) (mc ms : Nat) (post : UInt32 → PS → Prop) (postX : String → PS → Prop) (sz : Nat) (hf : f_X7_feudShare S a0 mc ms post postX) : p_Xf l D cy G S sz yX7_feudShare (Cond.code yX7_feudShare cX7_feudShare 2 (some .float) :: wG) (rm_X7_feudShare mc ms) [.ref a0] mc ms post postX := by
  refine q_startX hG (Qc := fun A => va_Qf post (p_Post D cy A) A) (XC := fun A => p_XC D cy A postX) mf_X7_feudShare (Nat.le_of_ble_eq_true rfl) (own := RX7) rfl ?_
  intro p e s m below meth c A X hr hlk hnm htab ls hl hH
  have hx := X.1.1
  have hb := X.1.2.1
  replace hl : lv_has ls 2 [(0, .ref a0)] := hl
  have main : ∀ (H : Heap) (locs : List Loc) (ls : Array Slot) (cells slots bc bs : Nat), f_X7_feudShare S a0 bc bs post postX → p_H D cy S A s H locs → lv_has ls 2 [(0, .ref a0)] → cells + bc ≤ mc ∧ slots + bs ≤ ms → W p l e (rm_X7_feudShare mc ms) s m [.ref a0].toArray below meth c H locs cells slots (vx_MQ below (va_Qf post (p_Post D cy A) A) (p_XC D cy A postX) [.ref a0].toArray s mc ms A) (F0 m 0 ls []) := by
    intro H locs ls cells slots bc bs hf hH hl hB
    refine lv_aload_n hx hb dX7_feudShare_0 rfl (lv_at hl 0 rfl) ?_
    refine q_getR (T := TX7) (N := 12) X hH hf iw_X7 rfl (by decide) tw_319 (fun _ h => h) dX7_feudShare_1 (fun v1 hf => ?_)
    obtain ⟨hb1, hb2, hf⟩ := hf
    refine q_backI0 X hH (q_runV [] [] X hH hl (c_X6_weightSum l D cy G X.2.2.2.1 S v1 _ _ hf) mf_X6_weightSum mv_X6_weightSum tw_1526 ⟨Nat.le_of_ble_eq_true rfl, Nat.le_of_ble_eq_true rfl⟩ hb1 hb2 (T := TX6) (N := 6) rfl rfl (Nat.le_of_ble_eq_true rfl) dX7_feudShare_4 ⟨Nat.le_trans (Nat.le_add_right _ _) hB.1, Nat.le_trans (Nat.le_add_right _ _) hB.2⟩) (fun v3 S2 hf H locs hH => ?_)
    refine lv_istore_n (lv' := [(1, .int v3), (0, .ref a0)]) hx hb dX7_feudShare_7 rfl hl (by decide) rfl (fun ls hl => ?_)
    refine lv_iload_n hx hb dX7_feudShare_8 rfl (lv_at hl 0 rfl) ?_
    refine lv_if_ne (tgt := 22) hx hb dX7_feudShare_9 (by decide) (fun c4 => ?_) (fun c4 => ?_)
    · have hf := (if_neg c4).mp hf
      refine lv_aload_n hx hb dX7_feudShare_22 rfl (lv_at hl 1 rfl) ?_
      refine q_getR (T := TX7) (N := 12) X hH hf iw_X7 rfl (by decide) tw_319 (fun _ h => h) dX7_feudShare_23 (fun v5 hf => ?_)
      obtain ⟨hb1, hb2, hf⟩ := hf
      refine q_backI0 X hH (q_runV [] [] X hH hl (c_X6_feudByBonds l D cy G X.2.2.2.1 S2 v5 _ _ hf) mf_X6_feudByBonds mv_X6_feudByBonds tw_360 ⟨Nat.le_of_ble_eq_true rfl, Nat.le_of_ble_eq_true rfl⟩ hb1 hb2 (T := TX6) (N := 6) rfl rfl (Nat.le_of_ble_eq_true rfl) dX7_feudShare_26 ⟨Nat.le_trans (Nat.le_add_right _ _) hB.1, Nat.le_trans (Nat.le_add_right _ _) hB.2⟩) (fun v7 S6 hf H locs hH => ?_)
      refine lv_i2f hx hb dX7_feudShare_29 ?_
      refine lv_iload_n hx hb dX7_feudShare_30 rfl (lv_at hl 0 rfl) ?_
      refine lv_i2f hx hb dX7_feudShare_31 ?_
      refine lv_fdiv hx hb dX7_feudShare_32 hf.1 ?_
      have hf := hf.2
      exact vx_ret (q_retF X hH hr hlk hf (Nat.le_trans (Nat.le_add_right _ _) hB.1) (Nat.le_trans (Nat.le_add_right _ _) hB.2) dX7_feudShare_33)
    · have hf := (if_pos c4).mp hf
      exact q_throw X hH hl hB rfl rfl hst (hGE _ _ _ X.2.2.2.2) hf tw_1570 tw_123 (text := "there are no bonds") (List.mem_of_getElem? (i := 17) rfl) xa_ArithmeticException xg_ArithmeticException (by decide +kernel) (by decide +kernel) dX7_feudShare_12 dX7_feudShare_15 dX7_feudShare_16 dX7_feudShare_18 dX7_feudShare_21 htab ⟨Nat.le_of_ble_eq_true rfl, Nat.le_of_ble_eq_true rfl⟩ (Nat.le_of_ble_eq_true rfl) hlk
  exact main s.heap [] ls 0 0 mc ms hf hH hl ⟨by omega, by omega⟩
-- X7_undo
def f_X7_undo (S : PS) (a0 : Nat) (bc bs : Nat) (post : Int32 → PS → Prop) (postX : String → PS → Prop) : Prop :=
  gR S a0 11 3 fun v1 => (
  gR S a0 11 0 fun v2 => (
  isO S v1 6 (
  f_X2_takesBack S v1 v2 fun v4 S3 => (
  if v4 = 0 then
    tX S3 "java/lang/IllegalStateException" bc bs postX
  else
    gR S3 a0 11 3 fun v6 => (
    isO S3 v6 6 (
    f_X2_count S3 v6 fun v8 S7 => (
    post v8 S7)))))))
abbrev rm_X7_undo (mc ms : Nat) : Room := { frames := 6, cells := mc, slots := ms, locals := 103 }
set_option maxHeartbeats 4000000 in
set_option maxRecDepth 100000 in
theorem c_X7_undo (l : Launch) (D : va_G) (cy : Nat → ClassId) (G : p_GT) (hG : p_ok G) (hst : l.stackTraces = false) (hGE : ∀ (A : Nat → Prop) (U : State) (H : Heap), G A U H → p_Ex A U H) (S : PS) (a0 : Nat) (mc ms : Nat) (post : Int32 → PS → Prop) (postX : String → PS → Prop) (sz : Nat) (hf : f_X7_undo S a0 mc ms post postX) : p_Xi l D cy G S sz yX7_undo (Cond.code yX7_undo cX7_undo 1 (some .int) :: wG) (rm_X7_undo mc ms) [.ref a0] mc ms post postX := by
  refine q_startX hG (Qc := fun A => va_Qi post (p_Post D cy A) A) (XC := fun A => p_XC D cy A postX) mf_X7_undo (Nat.le_of_ble_eq_true rfl) (own := RX7) rfl ?_
  intro p e s m below meth c A X hr hlk hnm htab ls hl hH
  have hx := X.1.1
  have hb := X.1.2.1
  replace hl : lv_has ls 1 [(0, .ref a0)] := hl
  have main : ∀ (H : Heap) (locs : List Loc) (ls : Array Slot) (cells slots bc bs : Nat), f_X7_undo S a0 bc bs post postX → p_H D cy S A s H locs → lv_has ls 1 [(0, .ref a0)] → cells + bc ≤ mc ∧ slots + bs ≤ ms → W p l e (rm_X7_undo mc ms) s m [.ref a0].toArray below meth c H locs cells slots (vx_MQ below (va_Qi post (p_Post D cy A) A) (p_XC D cy A postX) [.ref a0].toArray s mc ms A) (F0 m 0 ls []) := by
    intro H locs ls cells slots bc bs hf hH hl hB
    refine lv_aload_n hx hb dX7_undo_0 rfl (lv_at hl 0 rfl) ?_
    refine q_getR (T := TX7) (N := 12) X hH hf iw_X7 rfl (by decide) tw_322 (fun _ h => h) dX7_undo_1 (fun v1 hf => ?_)
    refine lv_aload_n hx hb dX7_undo_4 rfl (lv_at hl 0 rfl) ?_
    refine q_getR (T := TX7) (N := 12) X hH hf iw_X7 rfl (by decide) tw_319 (fun _ h => h) dX7_undo_5 (fun v2 hf => ?_)
    obtain ⟨hb1, hb2, hf⟩ := hf
    refine q_backI0 X hH (q_runV [.ref v2] [] X hH hl (c_X2_takesBack l D cy G X.2.2.2.1 S v1 v2 _ _ hf) mf_X2_takesBack mv_X2_takesBack tw_1586 ⟨Nat.le_of_ble_eq_true rfl, Nat.le_of_ble_eq_true rfl⟩ hb1 hb2 (T := TX2) (N := 3) rfl rfl (Nat.le_of_ble_eq_true rfl) dX7_undo_8 ⟨Nat.le_trans (Nat.le_add_right _ _) hB.1, Nat.le_trans (Nat.le_add_right _ _) hB.2⟩) (fun v4 S3 hf H locs hH => ?_)
    refine lv_if_ne (tgt := 25) hx hb dX7_undo_11 (by decide) (fun c5 => ?_) (fun c5 => ?_)
    · have hf := (if_neg c5).mp hf
      refine lv_aload_n hx hb dX7_undo_25 rfl (lv_at hl 0 rfl) ?_
      refine q_getR (T := TX7) (N := 12) X hH hf iw_X7 rfl (by decide) tw_322 (fun _ h => h) dX7_undo_26 (fun v6 hf => ?_)
      obtain ⟨hb1, hb2, hf⟩ := hf
      refine q_backI0 X hH (q_runV [] [] X hH hl (c_X2_count l D cy G X.2.2.2.1 S3 v6 _ _ hf) mf_X2_count mv_X2_count tw_1544 ⟨Nat.le_of_ble_eq_true rfl, Nat.le_of_ble_eq_true rfl⟩ hb1 hb2 (T := TX2) (N := 3) rfl rfl (Nat.le_of_ble_eq_true rfl) dX7_undo_29 ⟨Nat.le_trans (Nat.le_add_right _ _) hB.1, Nat.le_trans (Nat.le_add_right _ _) hB.2⟩) (fun v8 S7 hf H locs hH => ?_)
      exact vx_ret (q_retI X hH hr hlk hf (Nat.le_trans (Nat.le_add_right _ _) hB.1) (Nat.le_trans (Nat.le_add_right _ _) hB.2) dX7_undo_32)
    · have hf := (if_pos c5).mp hf
      exact q_throwW X hH hl hB rfl rfl hst (hGE _ _ _ X.2.2.2.2) hf tw_1289 tw_115 (text := "there is no change that can be undone") (List.mem_of_getElem? (i := 27) rfl) xa_IllegalStateException xg_IllegalStateException (by decide +kernel) (by decide +kernel) dX7_undo_14 dX7_undo_17 dX7_undo_18 dX7_undo_21 dX7_undo_24 htab ⟨Nat.le_of_ble_eq_true rfl, Nat.le_of_ble_eq_true rfl⟩ (Nat.le_of_ble_eq_true rfl) hlk
  exact main s.heap [] ls 0 0 mc ms hf hH hl ⟨by omega, by omega⟩
-- X7_refusesHousehold
def f_X7_refusesHousehold_J17 (post : Int32 → PS → Prop) (S : PS) (l1 : Int32) (t0 : Int32) (t1 : Nat) : Prop :=
  isO S t1 11 (
  f_X7_refusesIf S t1 t0 2 l1 fun v2 S1 => (
  nZ .boolean v2 (post v2 S1)))
def f_X7_refusesHousehold (S : PS) (a0 : Nat) (a1 : Int32) (post : Int32 → PS → Prop) : Prop :=
  gR S a0 11 0 fun v1 => (
  isO S v1 10 (
  f_X6_has S v1 a1 fun v3 S2 => (
  if v3 = 0 then
    f_X7_refusesHousehold_J17 post S2 a1 1 a0
  else
    f_X7_refusesHousehold_J17 post S2 a1 0 a0)))
abbrev rm_X7_refusesHousehold : Room := { frames := 2, cells := 0, slots := 0, locals := 45 }
set_option maxHeartbeats 4000000 in
set_option maxRecDepth 100000 in
theorem c_X7_refusesHousehold (l : Launch) (D : va_G) (cy : Nat → ClassId) (G : p_GT) (hG : p_ok G) (S : PS) (a0 : Nat) (a1 : Int32) (post : Int32 → PS → Prop) (sz : Nat) (hf : f_X7_refusesHousehold S a0 a1 post) : p_Mi l D cy G S sz yX7_refusesHousehold (Cond.code yX7_refusesHousehold cX7_refusesHousehold 2 (some .boolean) :: wG) rm_X7_refusesHousehold [.ref a0, .int a1] 0 0 post := by
  refine q_start hG (Qc := fun A => va_Qi post (p_Post D cy A) A) mf_X7_refusesHousehold (Nat.le_of_ble_eq_true rfl) (own := RX7) rfl ?_
  intro p e s m below meth c A X hr hlk hnm ls hl hH
  have hx := X.1.1
  have hb := X.1.2.1
  replace hl : lv_has ls 2 [(0, .ref a0), (1, .int a1)] := hl
  obtain ⟨H, hHe⟩ : ∃ H, H = s.heap := ⟨_, rfl⟩
  obtain ⟨locs, hlo⟩ : ∃ locs : List Loc, locs = [] := ⟨_, rfl⟩
  rw [← hHe, ← hlo] at hH
  show W p l e rm_X7_refusesHousehold s m [.ref a0, .int a1].toArray below meth c s.heap [] 0 0 _ _
  rw [← hHe, ← hlo]
  have hJ17 : ∀ (S : PS) (l1 : Int32) (t0 : Int32) (t1 : Nat), f_X7_refusesHousehold_J17 post S l1 t0 t1 → ∀ (H : Heap) (locs : List Loc) (ls : Array Slot), p_H D cy S A s H locs → lv_has ls 2 [(1, .int l1)] → W p l e rm_X7_refusesHousehold s m [.ref a0, .int a1].toArray below meth c H locs 0 0 (MQ below (va_Qi post (p_Post D cy A) A) [.ref a0, .int a1].toArray s 0 0 A) (F0 m 17 ls [.int t0, .ref t1]) := by
    intro S l1 t0 t1 hf H locs ls hH hl
    refine lv_iconst (v := 2) hx hb dX7_refusesHousehold_17 (by decide) ?_
    refine lv_iload_n hx hb dX7_refusesHousehold_18 rfl (lv_at hl 0 rfl) ?_
    obtain ⟨hb1, hb2, hf⟩ := hf
    refine q_backI0 X hH (q_runV [.int t0, .int 2, .int l1] [] X hH hl (c_X7_refusesIf l D cy G X.2.2.2.1 S t1 t0 2 l1 _ _ hf) mf_X7_refusesIf mv_X7_refusesIf tw_961 ⟨Nat.le_of_ble_eq_true rfl, Nat.le_of_ble_eq_true rfl⟩ hb1 hb2 (T := TX7) (N := 12) rfl rfl (Nat.le_of_ble_eq_true rfl) dX7_refusesHousehold_19 ⟨Nat.le_of_ble_eq_true rfl, Nat.le_of_ble_eq_true rfl⟩) (fun v2 S1 hf H locs hH => ?_)
    exact q_retZ X hH hr hlk hf (Nat.zero_le _) (Nat.zero_le _) dX7_refusesHousehold_22
  refine lv_aload_n hx hb dX7_refusesHousehold_0 rfl (lv_at hl 0 rfl) ?_
  refine lv_aload_n hx hb dX7_refusesHousehold_1 rfl (lv_at hl 0 rfl) ?_
  refine q_getR (T := TX7) (N := 12) X hH hf iw_X7 rfl (by decide) tw_319 (fun _ h => h) dX7_refusesHousehold_2 (fun v1 hf => ?_)
  refine lv_iload_n hx hb dX7_refusesHousehold_5 rfl (lv_at hl 1 rfl) ?_
  obtain ⟨hb1, hb2, hf⟩ := hf
  refine q_backI0 X hH (q_runV [.int a1] [.ref a0] X hH hl (c_X6_has l D cy G X.2.2.2.1 S v1 a1 _ _ hf) mf_X6_has mv_X6_has tw_973 ⟨Nat.le_of_ble_eq_true rfl, Nat.le_of_ble_eq_true rfl⟩ hb1 hb2 (T := TX6) (N := 6) rfl rfl (Nat.le_of_ble_eq_true rfl) dX7_refusesHousehold_6 ⟨Nat.le_of_ble_eq_true rfl, Nat.le_of_ble_eq_true rfl⟩) (fun v3 S2 hf H locs hH => ?_)
  refine lv_if_ne (tgt := 16) hx hb dX7_refusesHousehold_9 (by decide) (fun c4 => ?_) (fun c4 => ?_)
  · have hf := (if_neg c4).mp hf
    refine lv_iconst (v := 0) hx hb dX7_refusesHousehold_16 (by decide) ?_
    exact hJ17 S2 a1 0 a0 hf H locs ls hH (lv_sub hl [1] rfl)
  · have hf := (if_pos c4).mp hf
    refine lv_iconst (v := 1) hx hb dX7_refusesHousehold_12 (by decide) ?_
    refine lv_goto (tgt := 17) hx hb dX7_refusesHousehold_13 (by decide) ?_
    exact hJ17 S2 a1 1 a0 hf H locs ls hH (lv_sub hl [1] rfl)
-- X7_keyOf
def f_X7_keyOf (S : PS) (a0 : Nat) (a1 : Int32) (a2 : Int32) (post : Int32 → PS → Prop) : Prop :=
  if a1 = 0 then
    gR S a0 11 0 fun v2 => (
    gR S a0 11 0 fun v3 => (
    isO S v3 10 (
    f_X6_everyone S v3 fun v5 S4 => (
    isO S4 v2 10 (
    f_X6_tieToSet S4 v2 a2 v5 fun v7 S6 => (
    post v7 S6))))))
  else
  if a1 = 1 then
    gR S a0 11 0 fun v9 => (
    isO S v9 10 (
    f_X6_bondsOf S v9 a2 fun v11 S10 => (
    post v11 S10)))
  else
  if a1 = 2 then
    gR S a0 11 0 fun v13 => (
    gR S a0 11 0 fun v14 => (
    isO S v14 10 (
    f_X6_otherSide S v14 a2 fun v16 S15 => (
    isO S15 v13 10 (
    f_X6_tieToSet S15 v13 a2 v16 fun v18 S17 => (
    post v18 S17))))))
  else
    if a2 = 0 then
      post (-2147483647) S
    else
      gR S a0 11 5 fun v20 => (
      isO S v20 4 (
      f_X0_leastApart S v20 0 a2 fun v22 S21 => (
      post (-v22) S21)))
abbrev rm_X7_keyOf : Room := { frames := 4, cells := 0, slots := 0, locals := 84 }
set_option maxHeartbeats 4000000 in
set_option maxRecDepth 100000 in
theorem c_X7_keyOf (l : Launch) (D : va_G) (cy : Nat → ClassId) (G : p_GT) (hG : p_ok G) (S : PS) (a0 : Nat) (a1 : Int32) (a2 : Int32) (post : Int32 → PS → Prop) (sz : Nat) (hf : f_X7_keyOf S a0 a1 a2 post) : p_Mi l D cy G S sz yX7_keyOf (Cond.code yX7_keyOf cX7_keyOf 3 (some .int) :: wG) rm_X7_keyOf [.ref a0, .int a1, .int a2] 0 0 post := by
  refine q_start hG (Qc := fun A => va_Qi post (p_Post D cy A) A) mf_X7_keyOf (Nat.le_of_ble_eq_true rfl) (own := RX7) rfl ?_
  intro p e s m below meth c A X hr hlk hnm ls hl hH
  have hx := X.1.1
  have hb := X.1.2.1
  replace hl : lv_has ls 3 [(0, .ref a0), (1, .int a1), (2, .int a2)] := hl
  obtain ⟨H, hHe⟩ : ∃ H, H = s.heap := ⟨_, rfl⟩
  obtain ⟨locs, hlo⟩ : ∃ locs : List Loc, locs = [] := ⟨_, rfl⟩
  rw [← hHe, ← hlo] at hH
  show W p l e rm_X7_keyOf s m [.ref a0, .int a1, .int a2].toArray below meth c s.heap [] 0 0 _ _
  rw [← hHe, ← hlo]
  refine lv_iload_n hx hb dX7_keyOf_0 rfl (lv_at hl 1 rfl) ?_
  by_cases c1 : a1 = 0
  · have hf := (if_pos c1).mp hf
    refine lv_tableIn (off := 27) (tgt := 28) hx hb dX7_keyOf_1 (by rw [c1]; decide) (by rw [c1]; decide) (by rw [c1]; rfl) (by decide) ?_
    refine lv_aload_n hx hb dX7_keyOf_28 rfl (lv_at hl 0 rfl) ?_
    refine q_getR (T := TX7) (N := 12) X hH hf iw_X7 rfl (by decide) tw_319 (fun _ h => h) dX7_keyOf_29 (fun v2 hf => ?_)
    refine lv_iload_n hx hb dX7_keyOf_32 rfl (lv_at hl 2 rfl) ?_
    refine lv_aload_n hx hb dX7_keyOf_33 rfl (lv_at hl 0 rfl) ?_
    refine q_getR (T := TX7) (N := 12) X hH hf iw_X7 rfl (by decide) tw_319 (fun _ h => h) dX7_keyOf_34 (fun v3 hf => ?_)
    obtain ⟨hb1, hb2, hf⟩ := hf
    refine q_backI0 X hH (q_runV [] [.int a2, .ref v2] X hH hl (c_X6_everyone l D cy G X.2.2.2.1 S v3 _ _ hf) mf_X6_everyone mv_X6_everyone tw_935 ⟨Nat.le_of_ble_eq_true rfl, Nat.le_of_ble_eq_true rfl⟩ hb1 hb2 (T := TX6) (N := 6) rfl rfl (Nat.le_of_ble_eq_true rfl) dX7_keyOf_37 ⟨Nat.le_of_ble_eq_true rfl, Nat.le_of_ble_eq_true rfl⟩) (fun v5 S4 hf H locs hH => ?_)
    obtain ⟨hb1, hb2, hf⟩ := hf
    refine q_backI0 X hH (q_runV [.int a2, .int v5] [] X hH hl (c_X6_tieToSet l D cy G X.2.2.2.1 S4 v2 a2 v5 _ _ hf) mf_X6_tieToSet mv_X6_tieToSet tw_1127 ⟨Nat.le_of_ble_eq_true rfl, Nat.le_of_ble_eq_true rfl⟩ hb1 hb2 (T := TX6) (N := 6) rfl rfl (Nat.le_of_ble_eq_true rfl) dX7_keyOf_40 ⟨Nat.le_of_ble_eq_true rfl, Nat.le_of_ble_eq_true rfl⟩) (fun v7 S6 hf H locs hH => ?_)
    exact q_retI X hH hr hlk hf (Nat.zero_le _) (Nat.zero_le _) dX7_keyOf_43
  · have hf := (if_neg c1).mp hf
    by_cases c8 : a1 = 1
    · have hf := (if_pos c8).mp hf
      refine lv_tableIn (off := 43) (tgt := 44) hx hb dX7_keyOf_1 (by rw [c8]; decide) (by rw [c8]; decide) (by rw [c8]; rfl) (by decide) ?_
      refine lv_aload_n hx hb dX7_keyOf_44 rfl (lv_at hl 0 rfl) ?_
      refine q_getR (T := TX7) (N := 12) X hH hf iw_X7 rfl (by decide) tw_319 (fun _ h => h) dX7_keyOf_45 (fun v9 hf => ?_)
      refine lv_iload_n hx hb dX7_keyOf_48 rfl (lv_at hl 2 rfl) ?_
      obtain ⟨hb1, hb2, hf⟩ := hf
      refine q_backI0 X hH (q_runV [.int a2] [] X hH hl (c_X6_bondsOf l D cy G X.2.2.2.1 S v9 a2 _ _ hf) mf_X6_bondsOf mv_X6_bondsOf tw_1126 ⟨Nat.le_of_ble_eq_true rfl, Nat.le_of_ble_eq_true rfl⟩ hb1 hb2 (T := TX6) (N := 6) rfl rfl (Nat.le_of_ble_eq_true rfl) dX7_keyOf_49 ⟨Nat.le_of_ble_eq_true rfl, Nat.le_of_ble_eq_true rfl⟩) (fun v11 S10 hf H locs hH => ?_)
      exact q_retI X hH hr hlk hf (Nat.zero_le _) (Nat.zero_le _) dX7_keyOf_52
    · have hf := (if_neg c8).mp hf
      by_cases c12 : a1 = 2
      · have hf := (if_pos c12).mp hf
        refine lv_tableIn (off := 52) (tgt := 53) hx hb dX7_keyOf_1 (by rw [c12]; decide) (by rw [c12]; decide) (by rw [c12]; rfl) (by decide) ?_
        refine lv_aload_n hx hb dX7_keyOf_53 rfl (lv_at hl 0 rfl) ?_
        refine q_getR (T := TX7) (N := 12) X hH hf iw_X7 rfl (by decide) tw_319 (fun _ h => h) dX7_keyOf_54 (fun v13 hf => ?_)
        refine lv_iload_n hx hb dX7_keyOf_57 rfl (lv_at hl 2 rfl) ?_
        refine lv_aload_n hx hb dX7_keyOf_58 rfl (lv_at hl 0 rfl) ?_
        refine q_getR (T := TX7) (N := 12) X hH hf iw_X7 rfl (by decide) tw_319 (fun _ h => h) dX7_keyOf_59 (fun v14 hf => ?_)
        refine lv_iload_n hx hb dX7_keyOf_62 rfl (lv_at hl 2 rfl) ?_
        obtain ⟨hb1, hb2, hf⟩ := hf
        refine q_backI0 X hH (q_runV [.int a2] [.int a2, .ref v13] X hH hl (c_X6_otherSide l D cy G X.2.2.2.1 S v14 a2 _ _ hf) mf_X6_otherSide mv_X6_otherSide tw_1129 ⟨Nat.le_of_ble_eq_true rfl, Nat.le_of_ble_eq_true rfl⟩ hb1 hb2 (T := TX6) (N := 6) rfl rfl (Nat.le_of_ble_eq_true rfl) dX7_keyOf_63 ⟨Nat.le_of_ble_eq_true rfl, Nat.le_of_ble_eq_true rfl⟩) (fun v16 S15 hf H locs hH => ?_)
        obtain ⟨hb1, hb2, hf⟩ := hf
        refine q_backI0 X hH (q_runV [.int a2, .int v16] [] X hH hl (c_X6_tieToSet l D cy G X.2.2.2.1 S15 v13 a2 v16 _ _ hf) mf_X6_tieToSet mv_X6_tieToSet tw_1127 ⟨Nat.le_of_ble_eq_true rfl, Nat.le_of_ble_eq_true rfl⟩ hb1 hb2 (T := TX6) (N := 6) rfl rfl (Nat.le_of_ble_eq_true rfl) dX7_keyOf_66 ⟨Nat.le_of_ble_eq_true rfl, Nat.le_of_ble_eq_true rfl⟩) (fun v18 S17 hf H locs hH => ?_)
        exact q_retI X hH hr hlk hf (Nat.zero_le _) (Nat.zero_le _) dX7_keyOf_69
      · have hf := (if_neg c12).mp hf
        refine lv_tableOut (tgt := 70) hx hb dX7_keyOf_1 (by have z0 := lv_neT c1 (a := 0) rfl; have z1 := lv_neT c8 (a := 1) rfl; have z2 := lv_neT c12 (a := 2) rfl; omega) (by decide) ?_
        refine lv_iload_n hx hb dX7_keyOf_70 rfl (lv_at hl 2 rfl) ?_
        refine lv_if_ne (tgt := 80) hx hb dX7_keyOf_71 (by decide) (fun c19 => ?_) (fun c19 => ?_)
        · have hf := (if_neg c19).mp hf
          refine lv_aload_n hx hb dX7_keyOf_80 rfl (lv_at hl 0 rfl) ?_
          refine q_getR (T := TX7) (N := 12) X hH hf iw_X7 rfl (by decide) tw_324 (fun _ h => h) dX7_keyOf_81 (fun v20 hf => ?_)
          refine lv_iconst (v := 0) hx hb dX7_keyOf_84 (by decide) ?_
          refine lv_iload_n hx hb dX7_keyOf_85 rfl (lv_at hl 2 rfl) ?_
          obtain ⟨hb1, hb2, hf⟩ := hf
          refine q_backI0 X hH (q_runV [.int 0, .int a2] [] X hH hl (c_X0_leastApart l D cy G X.2.2.2.1 S v20 0 a2 _ _ hf) mf_X0_leastApart mv_X0_leastApart tw_506 ⟨Nat.le_of_ble_eq_true rfl, Nat.le_of_ble_eq_true rfl⟩ hb1 hb2 (T := TX0) (N := 2) rfl rfl (Nat.le_of_ble_eq_true rfl) dX7_keyOf_86 ⟨Nat.le_of_ble_eq_true rfl, Nat.le_of_ble_eq_true rfl⟩) (fun v22 S21 hf H locs hH => ?_)
          refine lv_ineg hx hb dX7_keyOf_89 ?_
          exact q_retI X hH hr hlk hf (Nat.zero_le _) (Nat.zero_le _) dX7_keyOf_90
        · have hf := (if_pos c19).mp hf
          refine lv_ldcw (v := (-2147483647)) hx hb X.1.2.2.2.1 (X.1.2.2.2.2 _ tw_1352) dX7_keyOf_74 ?_
          refine lv_goto (tgt := 90) hx hb dX7_keyOf_77 (by decide) ?_
          exact q_retI X hH hr hlk hf (Nat.zero_le _) (Nat.zero_le _) dX7_keyOf_90
-- X7_householdAtPlace
def f_X7_householdAtPlace_L2 (post : Int32 → PS → Prop) : Nat → PS → Nat → Int32 → Int32 → Prop
  | 0, _, _, _, _ => False
  | n + 1, S, l0, l1, l2 =>
  gR S l0 11 0 fun v1 => (
  gI S v1 10 1 fun v2 => (
  if v2 ≤ l2 then
    post (-1) S
  else
    isO S l0 11 (
    f_X7_placeOf S l0 l2 fun v5 S4 => (
    if v5 = l1 then
      post l2 S4
    else
      (f_X7_householdAtPlace_L2 post n) S4 l0 l1 (l2 + 1)))))
def f_X7_householdAtPlace (S : PS) (a0 : Nat) (a1 : Int32) (post : Int32 → PS → Prop) : Prop :=
  f_X7_householdAtPlace_L2 post 4096 S a0 a1 0
abbrev rm_X7_householdAtPlace : Room := { frames := 1, cells := 0, slots := 0, locals := 24 }
set_option maxHeartbeats 4000000 in
set_option maxRecDepth 100000 in
theorem c_X7_householdAtPlace (l : Launch) (D : va_G) (cy : Nat → ClassId) (G : p_GT) (hG : p_ok G) (S : PS) (a0 : Nat) (a1 : Int32) (post : Int32 → PS → Prop) (sz : Nat) (hf : f_X7_householdAtPlace S a0 a1 post) : p_Mi l D cy G S sz yX7_householdAtPlace (Cond.code yX7_householdAtPlace cX7_householdAtPlace 3 (some .int) :: wG) rm_X7_householdAtPlace [.ref a0, .int a1] 0 0 post := by
  refine q_start hG (Qc := fun A => va_Qi post (p_Post D cy A) A) mf_X7_householdAtPlace (Nat.le_of_ble_eq_true rfl) (own := RX7) rfl ?_
  intro p e s m below meth c A X hr hlk hnm ls hl hH
  have hx := X.1.1
  have hb := X.1.2.1
  replace hl : lv_has ls 3 [(0, .ref a0), (1, .int a1)] := hl
  obtain ⟨H, hHe⟩ : ∃ H, H = s.heap := ⟨_, rfl⟩
  obtain ⟨locs, hlo⟩ : ∃ locs : List Loc, locs = [] := ⟨_, rfl⟩
  rw [← hHe, ← hlo] at hH
  show W p l e rm_X7_householdAtPlace s m [.ref a0, .int a1].toArray below meth c s.heap [] 0 0 _ _
  rw [← hHe, ← hlo]
  have hL2 : ∀ (n2 : Nat) (S : PS) (l0 : Nat) (l1 : Int32) (l2 : Int32), f_X7_householdAtPlace_L2 post n2 S l0 l1 l2 → ∀ (H : Heap) (locs : List Loc) (ls : Array Slot), p_H D cy S A s H locs → lv_has ls 3 [(0, .ref l0), (1, .int l1), (2, .int l2)] → W p l e rm_X7_householdAtPlace s m [.ref a0, .int a1].toArray below meth c H locs 0 0 (MQ below (va_Qi post (p_Post D cy A) A) [.ref a0, .int a1].toArray s 0 0 A) (F0 m 2 ls []) := by
    intro n2
    induction n2 with
    | zero => intro S l0 l1 l2 hf; exact hf.elim
    | succ n2 ih2 =>
      intro S l0 l1 l2 hf H locs ls hH hl
      refine lv_iload_n hx hb dX7_householdAtPlace_2 rfl (lv_at hl 2 rfl) ?_
      refine lv_aload_n hx hb dX7_householdAtPlace_3 rfl (lv_at hl 0 rfl) ?_
      refine q_getR (T := TX7) (N := 12) X hH hf iw_X7 rfl (by decide) tw_319 (fun _ h => h) dX7_householdAtPlace_4 (fun v1 hf => ?_)
      refine q_getIN (T := TX6) (N := 6) X hH hf iw_X6 rfl (by decide) (List.mem_of_getElem? (i := 0) rfl) (fun _ h => h) dX7_householdAtPlace_7 (fun v2 hf => ?_)
      refine lv_icmp_ge (tgt := 30) hx hb dX7_householdAtPlace_10 (by decide) (fun c3 => ?_) (fun c3 => ?_)
      · have hf := (if_pos c3).mp hf
        refine lv_iconst (v := (-1)) hx hb dX7_householdAtPlace_30 (by decide) ?_
        exact q_retI X hH hr hlk hf (Nat.zero_le _) (Nat.zero_le _) dX7_householdAtPlace_31
      · have hf := (if_neg c3).mp hf
        refine lv_aload_n hx hb dX7_householdAtPlace_13 rfl (lv_at hl 0 rfl) ?_
        refine lv_iload_n hx hb dX7_householdAtPlace_14 rfl (lv_at hl 2 rfl) ?_
        obtain ⟨hb1, hb2, hf⟩ := hf
        refine q_backI0 X hH (q_runV [.int l2] [] X hH hl (c_X7_placeOf l D cy G X.2.2.2.1 S l0 l2 _ _ hf) mf_X7_placeOf mv_X7_placeOf tw_1357 ⟨Nat.le_of_ble_eq_true rfl, Nat.le_of_ble_eq_true rfl⟩ hb1 hb2 (T := TX7) (N := 12) rfl rfl (Nat.le_of_ble_eq_true rfl) dX7_householdAtPlace_15 ⟨Nat.le_of_ble_eq_true rfl, Nat.le_of_ble_eq_true rfl⟩) (fun v5 S4 hf H locs hH => ?_)
        refine lv_iload_n hx hb dX7_householdAtPlace_18 rfl (lv_at hl 1 rfl) ?_
        refine lv_icmp_ne (tgt := 24) hx hb dX7_householdAtPlace_19 (by decide) (fun c6 => ?_) (fun c6 => ?_)
        · have hf := (if_neg c6).mp hf
          refine lv_iinc (v := l2 + 1) (lv' := [(2, .int (l2 + 1)), (0, .ref l0), (1, .int l1)]) hx hb dX7_householdAtPlace_24 hl (k := 2) rfl rfl (by decide) rfl (fun ls hl => ?_)
          refine lv_goto (tgt := 2) hx hb dX7_householdAtPlace_27 (by decide) ?_
          exact ih2 S4 l0 l1 (l2 + 1) hf H locs ls hH (lv_sub hl [1, 2, 0] rfl)
        · have hf := (if_pos c6).mp hf
          refine lv_iload_n hx hb dX7_householdAtPlace_22 rfl (lv_at hl 2 rfl) ?_
          exact q_retI X hH hr hlk hf (Nat.zero_le _) (Nat.zero_le _) dX7_householdAtPlace_23
  refine lv_iconst (v := 0) hx hb dX7_householdAtPlace_0 (by decide) ?_
  refine lv_istore_n (lv' := [(2, .int 0), (0, .ref a0), (1, .int a1)]) hx hb dX7_householdAtPlace_1 rfl hl (by decide) rfl (fun ls hl => ?_)
  exact hL2 4096 S a0 a1 0 hf H locs ls hH (lv_sub hl [1, 2, 0] rfl)
-- X0_measure
def f_X0_measure_L26 (post : PS → Prop) : Nat → PS → Nat → Nat → Int32 → Prop
  | 0, _, _, _, _ => False
  | n + 1, S, l0, l1, l2 =>
  gI S l0 4 1 fun v1 => (
  if v1 ≤ l2 then
    post S
  else
    gR S l0 4 0 fun v3 => (
    lE S v3 fun v4 => (
    if v4 ≤ l2 then
      post S
    else
      f_X7_lowestOf S l2 fun v7 S6 => (
      gR S6 l0 4 0 fun v8 => (
      gR S6 l0 4 0 fun v9 => (
      aI S6 v9 0 (l2 &&& (((1 : Int32) <<< (v7 &&& 31)) ^^^ (-1))) fun v10 => (
      isO S6 l1 10 (
      f_X6_everyone S6 l1 fun v12 S11 => (
      isO S11 l1 10 (
      f_X6_tieToSet S11 l1 v7 v12 fun v14 S13 => (
      isO S13 l1 10 (
      f_X6_tieToSet S13 l1 v7 (l2 &&& (((1 : Int32) <<< (v7 &&& 31)) ^^^ (-1))) fun v16 S15 => (
      sI S15 v8 0 l2 ((v10 + v14) - ((2 : Int32) * v16)) fun S17 => (
      (f_X0_measure_L26 post n) S17 l0 l1 (l2 + 1)))))))))))))))
def f_X0_measure_J21 (post : PS → Prop) (S : PS) (l0 : Nat) (l1 : Nat) (t0 : Int32) (t1 : Nat) : Prop :=
  pV S t1 4 1 (.int t0) fun S1 => (
  f_X0_measure_L26 post 4096 S1 l0 l1 1)
def f_X0_measure (S : PS) (a0 : Nat) (a1 : Nat) (post : PS → Prop) : Prop :=
  gI S a1 10 1 fun v1 => (
  if 2 ≤ v1 then
    gI S a1 10 1 fun v3 => (
    f_X0_measure_J21 post S a0 a1 ((1 : Int32) <<< ((v3 - 1) &&& 31)) a0)
  else
    f_X0_measure_J21 post S a0 a1 0 a0)
abbrev rm_X0_measure : Room := { frames := 3, cells := 0, slots := 0, locals := 67 }
set_option maxHeartbeats 4000000 in
set_option maxRecDepth 100000 in
theorem c_X0_measure (l : Launch) (D : va_G) (cy : Nat → ClassId) (G : p_GT) (hG : p_ok G) (S : PS) (a0 : Nat) (a1 : Nat) (post : PS → Prop) (sz : Nat) (hf : f_X0_measure S a0 a1 post) : p_Mv l D cy G S sz yX0_measure (Cond.code yX0_measure cX0_measure 5 none :: wG) rm_X0_measure [.ref a0, .ref a1] 0 0 post := by
  refine q_start hG (Qc := fun A => va_Qv post (p_Post D cy A) A) mf_X0_measure (Nat.le_of_ble_eq_true rfl) (own := RX0) rfl ?_
  intro p e s m below meth c A X hr hlk hnm ls hl hH
  have hx := X.1.1
  have hb := X.1.2.1
  replace hl : lv_has ls 5 [(0, .ref a0), (1, .ref a1)] := hl
  obtain ⟨H, hHe⟩ : ∃ H, H = s.heap := ⟨_, rfl⟩
  obtain ⟨locs, hlo⟩ : ∃ locs : List Loc, locs = [] := ⟨_, rfl⟩
  rw [← hHe, ← hlo] at hH
  show W p l e rm_X0_measure s m [.ref a0, .ref a1].toArray below meth c s.heap [] 0 0 _ _
  rw [← hHe, ← hlo]
  have hJ21 : ∀ (S : PS) (l0 : Nat) (l1 : Nat) (t0 : Int32) (t1 : Nat), f_X0_measure_J21 post S l0 l1 t0 t1 → ∀ (H : Heap) (locs : List Loc) (ls : Array Slot), p_H D cy S A s H locs → lv_has ls 5 [(0, .ref l0), (1, .ref l1)] → W p l e rm_X0_measure s m [.ref a0, .ref a1].toArray below meth c H locs 0 0 (MQ below (va_Qv post (p_Post D cy A) A) [.ref a0, .ref a1].toArray s 0 0 A) (F0 m 21 ls [.int t0, .ref t1]) := by
    intro S l0 l1 t0 t1 hf H locs ls hH hl
    have hL26 : ∀ (n26 : Nat) (S : PS) (l0 : Nat) (l1 : Nat) (l2 : Int32), f_X0_measure_L26 post n26 S l0 l1 l2 → ∀ (H : Heap) (locs : List Loc) (ls : Array Slot), p_H D cy S A s H locs → lv_has ls 5 [(0, .ref l0), (1, .ref l1), (2, .int l2)] → W p l e rm_X0_measure s m [.ref a0, .ref a1].toArray below meth c H locs 0 0 (MQ below (va_Qv post (p_Post D cy A) A) [.ref a0, .ref a1].toArray s 0 0 A) (F0 m 26 ls []) := by
      intro n26
      induction n26 with
      | zero => intro S l0 l1 l2 hf; exact hf.elim
      | succ n26 ih26 =>
        intro S l0 l1 l2 hf H locs ls hH hl
        refine lv_iload_n hx hb dX0_measure_26 rfl (lv_at hl 2 rfl) ?_
        refine lv_aload_n hx hb dX0_measure_27 rfl (lv_at hl 0 rfl) ?_
        refine q_getI (T := TX0) (N := 2) X hH hf iw_X0 rfl (by decide) tw_215 (fun _ h => h) dX0_measure_28 (fun v1 hf => ?_)
        refine lv_icmp_ge (tgt := 96) hx hb dX0_measure_31 (by decide) (fun c2 => ?_) (fun c2 => ?_)
        · have hf := (if_pos c2).mp hf
          exact q_retV X hH hr hlk hf (Nat.zero_le _) (Nat.zero_le _) dX0_measure_96
        · have hf := (if_neg c2).mp hf
          refine lv_iload_n hx hb dX0_measure_34 rfl (lv_at hl 2 rfl) ?_
          refine lv_aload_n hx hb dX0_measure_35 rfl (lv_at hl 0 rfl) ?_
          refine q_getR (T := TX0) (N := 2) X hH hf iw_X0 rfl (by decide) tw_214 (fun _ h => h) dX0_measure_36 (fun v3 hf => ?_)
          refine q_alen X hH hf dX0_measure_39 (fun v4 hf => ?_)
          refine lv_icmp_ge (tgt := 96) hx hb dX0_measure_40 (by decide) (fun c5 => ?_) (fun c5 => ?_)
          · have hf := (if_pos c5).mp hf
            exact q_retV X hH hr hlk hf (Nat.zero_le _) (Nat.zero_le _) dX0_measure_96
          · have hf := (if_neg c5).mp hf
            refine lv_iload_n hx hb dX0_measure_43 rfl (lv_at hl 2 rfl) ?_
            refine q_backI0 X hH (q_runSN [.int l2] [] X hH hl (c_X7_lowestOf l D cy G X.2.2.2.1 S l2 _ _ hf) mf_X7_lowestOf tw_420 (List.mem_of_getElem? (i := 14) rfl) ⟨Nat.le_of_ble_eq_true rfl, Nat.le_of_ble_eq_true rfl⟩ rfl (Nat.le_of_ble_eq_true rfl) dX0_measure_44 ⟨Nat.le_of_ble_eq_true rfl, Nat.le_of_ble_eq_true rfl⟩) (fun v7 S6 hf H locs hH => ?_)
            refine lv_istore_n (lv' := [(3, .int v7), (0, .ref l0), (1, .ref l1), (2, .int l2)]) hx hb dX0_measure_47 rfl hl (by decide) rfl (fun ls hl => ?_)
            refine lv_iload_n hx hb dX0_measure_48 rfl (lv_at hl 3 rfl) ?_
            refine lv_iconst (v := 1) hx hb dX0_measure_49 (by decide) ?_
            refine lv_iload_n hx hb dX0_measure_50 rfl (lv_at hl 0 rfl) ?_
            refine lv_ishl hx hb dX0_measure_51 ?_
            refine lv_iconst (v := (-1)) hx hb dX0_measure_52 (by decide) ?_
            refine lv_ixor hx hb dX0_measure_53 ?_
            refine lv_iand hx hb dX0_measure_54 ?_
            refine lv_istore (lv' := [(4, .int (l2 &&& (((1 : Int32) <<< (v7 &&& 31)) ^^^ (-1)))), (3, .int v7), (0, .ref l0), (1, .ref l1), (2, .int l2)]) hx hb dX0_measure_55 hl (by decide) rfl (fun ls hl => ?_)
            refine lv_aload_n hx hb dX0_measure_57 rfl (lv_at hl 2 rfl) ?_
            refine q_getR (T := TX0) (N := 2) X hH hf iw_X0 rfl (by decide) tw_214 (fun _ h => h) dX0_measure_58 (fun v8 hf => ?_)
            refine lv_iload_n hx hb dX0_measure_61 rfl (lv_at hl 4 rfl) ?_
            refine lv_aload_n hx hb dX0_measure_62 rfl (lv_at hl 2 rfl) ?_
            refine q_getR (T := TX0) (N := 2) X hH hf iw_X0 rfl (by decide) tw_214 (fun _ h => h) dX0_measure_63 (fun v9 hf => ?_)
            refine lv_iload hx hb dX0_measure_66 (lv_at hl 0 rfl) ?_
            refine q_iald X hH hf dX0_measure_68 (fun v10 hf => ?_)
            refine lv_aload_n hx hb dX0_measure_69 rfl (lv_at hl 3 rfl) ?_
            refine lv_iload_n hx hb dX0_measure_70 rfl (lv_at hl 1 rfl) ?_
            refine lv_aload_n hx hb dX0_measure_71 rfl (lv_at hl 3 rfl) ?_
            obtain ⟨hb1, hb2, hf⟩ := hf
            refine q_backI0 X hH (q_runV [] [.int v7, .ref l1, .int v10, .int l2, .ref v8] X hH hl (c_X6_everyone l D cy G X.2.2.2.1 S6 l1 _ _ hf) mf_X6_everyone mv_X6_everyone tw_498 ⟨Nat.le_of_ble_eq_true rfl, Nat.le_of_ble_eq_true rfl⟩ hb1 hb2 (T := TX6) (N := 6) rfl rfl (Nat.le_of_ble_eq_true rfl) dX0_measure_72 ⟨Nat.le_of_ble_eq_true rfl, Nat.le_of_ble_eq_true rfl⟩) (fun v12 S11 hf H locs hH => ?_)
            obtain ⟨hb1, hb2, hf⟩ := hf
            refine q_backI0 X hH (q_runV [.int v7, .int v12] [.int v10, .int l2, .ref v8] X hH hl (c_X6_tieToSet l D cy G X.2.2.2.1 S11 l1 v7 v12 _ _ hf) mf_X6_tieToSet mv_X6_tieToSet tw_499 ⟨Nat.le_of_ble_eq_true rfl, Nat.le_of_ble_eq_true rfl⟩ hb1 hb2 (T := TX6) (N := 6) rfl rfl (Nat.le_of_ble_eq_true rfl) dX0_measure_75 ⟨Nat.le_of_ble_eq_true rfl, Nat.le_of_ble_eq_true rfl⟩) (fun v14 S13 hf H locs hH => ?_)
            refine lv_iadd hx hb dX0_measure_78 ?_
            refine lv_iconst (v := 2) hx hb dX0_measure_79 (by decide) ?_
            refine lv_aload_n hx hb dX0_measure_80 rfl (lv_at hl 3 rfl) ?_
            refine lv_iload_n hx hb dX0_measure_81 rfl (lv_at hl 1 rfl) ?_
            refine lv_iload hx hb dX0_measure_82 (lv_at hl 0 rfl) ?_
            obtain ⟨hb1, hb2, hf⟩ := hf
            refine q_backI0 X hH (q_runV [.int v7, .int (l2 &&& (((1 : Int32) <<< (v7 &&& 31)) ^^^ (-1)))] [.int 2, .int (v10 + v14), .int l2, .ref v8] X hH hl (c_X6_tieToSet l D cy G X.2.2.2.1 S13 l1 v7 (l2 &&& (((1 : Int32) <<< (v7 &&& 31)) ^^^ (-1))) _ _ hf) mf_X6_tieToSet mv_X6_tieToSet tw_499 ⟨Nat.le_of_ble_eq_true rfl, Nat.le_of_ble_eq_true rfl⟩ hb1 hb2 (T := TX6) (N := 6) rfl rfl (Nat.le_of_ble_eq_true rfl) dX0_measure_84 ⟨Nat.le_of_ble_eq_true rfl, Nat.le_of_ble_eq_true rfl⟩) (fun v16 S15 hf H locs hH => ?_)
            refine lv_imul hx hb dX0_measure_87 ?_
            refine lv_isub hx hb dX0_measure_88 ?_
            refine q_iast X hH hf dX0_measure_89 (fun S17 hf H locs hH => ?_)
            refine lv_iinc (v := l2 + 1) (lv' := [(2, .int (l2 + 1)), (4, .int (l2 &&& (((1 : Int32) <<< (v7 &&& 31)) ^^^ (-1)))), (3, .int v7), (0, .ref l0), (1, .ref l1)]) hx hb dX0_measure_90 hl (k := 4) rfl rfl (by decide) rfl (fun ls hl => ?_)
            refine lv_goto (tgt := 26) hx hb dX0_measure_93 (by decide) ?_
            exact ih26 S17 l0 l1 (l2 + 1) hf H locs ls hH (lv_sub hl [3, 4, 0] rfl)
    refine q_putV (T := TX0) (N := 2) (ty0 := tyX0) (ty := tyX0 1) X hH hf iw_X0 tyX0_ok nmX0 rfl (by decide) tw_215 (fun _ h => h) rfl (tyX0_ok 1 (by decide)) rfl rfl dX0_measure_21 (fun S1 hf H locs hH => ?_)
    refine lv_iconst (v := 1) hx hb dX0_measure_24 (by decide) ?_
    refine lv_istore_n (lv' := [(2, .int 1), (0, .ref l0), (1, .ref l1)]) hx hb dX0_measure_25 rfl hl (by decide) rfl (fun ls hl => ?_)
    exact hL26 4096 S1 l0 l1 1 hf H locs ls hH (lv_sub hl [1, 2, 0] rfl)
  refine lv_aload_n hx hb dX0_measure_0 rfl (lv_at hl 0 rfl) ?_
  refine lv_aload_n hx hb dX0_measure_1 rfl (lv_at hl 1 rfl) ?_
  refine q_getIN (T := TX6) (N := 6) X hH hf iw_X6 rfl (by decide) (List.mem_of_getElem? (i := 5) rfl) (fun _ h => h) dX0_measure_2 (fun v1 hf => ?_)
  refine lv_iconst (v := 2) hx hb dX0_measure_5 (by decide) ?_
  refine lv_icmp_ge (tgt := 13) hx hb dX0_measure_6 (by decide) (fun c2 => ?_) (fun c2 => ?_)
  · have hf := (if_pos c2).mp hf
    refine lv_iconst (v := 1) hx hb dX0_measure_13 (by decide) ?_
    refine lv_aload_n hx hb dX0_measure_14 rfl (lv_at hl 1 rfl) ?_
    refine q_getIN (T := TX6) (N := 6) X hH hf iw_X6 rfl (by decide) (List.mem_of_getElem? (i := 5) rfl) (fun _ h => h) dX0_measure_15 (fun v3 hf => ?_)
    refine lv_iconst (v := 1) hx hb dX0_measure_18 (by decide) ?_
    refine lv_isub hx hb dX0_measure_19 ?_
    refine lv_ishl hx hb dX0_measure_20 ?_
    exact hJ21 S a0 a1 ((1 : Int32) <<< ((v3 - 1) &&& 31)) a0 hf H locs ls hH hl
  · have hf := (if_neg c2).mp hf
    refine lv_iconst (v := 0) hx hb dX0_measure_9 (by decide) ?_
    refine lv_goto (tgt := 21) hx hb dX0_measure_10 (by decide) ?_
    exact hJ21 S a0 a1 0 a0 hf H locs ls hH hl
-- X1_findsPath
def f_X1_findsPath_J123 (post : Int32 → PS → Prop) (S : PS) (l2 : Int32) (l3 : Int32) : Prop :=
  f_X7_isIn S l3 l2 fun v2 S1 => (
  nZ .boolean v2 (post v2 S1))
def f_X1_findsPath_J117 (post : Int32 → PS → Prop) (g17 : PS → Nat → Int32 → Int32 → Int32 → Int32 → Prop) (S : PS) (l0 : Nat) (l2 : Int32) (l3 : Int32) (l4 : Int32) (l5 : Int32) : Prop :=
  g17 S l0 l2 l3 l4 (l5 + 1)
def f_X1_findsPath_J111 (post : Int32 → PS → Prop) (g46 : PS → Nat → Int32 → Int32 → Int32 → Int32 → Int32 → Int32 → Prop) (S : PS) (l0 : Nat) (l2 : Int32) (l3 : Int32) (l4 : Int32) (l5 : Int32) (l6 : Int32) (l7 : Int32) : Prop :=
  g46 S l0 l2 l3 l4 l5 l6 (l7 + 1)
def f_X1_findsPath_L46 (post : Int32 → PS → Prop) (g17 : PS → Nat → Int32 → Int32 → Int32 → Int32 → Prop) : Nat → PS → Nat → Int32 → Int32 → Int32 → Int32 → Int32 → Int32 → Prop
  | 0, _, _, _, _, _, _, _, _ => False
  | n + 1, S, l0, l2, l3, l4, l5, l6, l7 =>
  if 9 ≤ l7 then
    f_X1_findsPath_J117 post g17 S l0 l2 l3 l4 l5
  else
    f_X7_isIn S l3 l7 fun v3 S2 => (
    if v3 = 0 then
      isO S2 l0 5 (
      f_X1_roomOn S2 l0 l6 l7 fun v6 S5 => (
      if v6 ≤ 0 then
        f_X1_findsPath_J111 post (f_X1_findsPath_L46 post g17 n) S5 l0 l2 l3 l4 l5 l6 l7
      else
        gR S5 l0 5 2 fun v8 => (
        lE S5 v8 fun v9 => (
        if v9 ≤ l4 then
          f_X1_findsPath_J111 post (f_X1_findsPath_L46 post g17 n) S5 l0 l2 l3 l4 l5 l6 l7
        else
          gR S5 l0 5 1 fun v11 => (
          sI S5 v11 0 l7 l6 fun S12 => (
          gR S12 l0 5 2 fun v13 => (
          sI S12 v13 0 l4 l7 fun S14 => (
          f_X1_findsPath_J111 post (f_X1_findsPath_L46 post g17 n) S14 l0 l2 (l3 ||| ((1 : Int32) <<< (l7 &&& 31))) (l4 + 1) l5 l6 l7))))))))
    else
      f_X1_findsPath_J111 post (f_X1_findsPath_L46 post g17 n) S2 l0 l2 l3 l4 l5 l6 l7)
def f_X1_findsPath_L17 (post : Int32 → PS → Prop) : Nat → PS → Nat → Int32 → Int32 → Int32 → Int32 → Prop
  | 0, _, _, _, _, _, _ => False
  | n + 1, S, l0, l2, l3, l4, l5 =>
  if l4 ≤ l5 then
    f_X1_findsPath_J123 post S l2 l3
  else
    gR S l0 5 2 fun v2 => (
    lE S v2 fun v3 => (
    if v3 ≤ l5 then
      f_X1_findsPath_J123 post S l2 l3
    else
      gR S l0 5 2 fun v5 => (
      aI S v5 0 l5 fun v6 => (
      f_X1_findsPath_L46 post (f_X1_findsPath_L17 post n) 4096 S l0 l2 l3 l4 l5 v6 0))))
def f_X1_findsPath (S : PS) (a0 : Nat) (a1 : Int32) (a2 : Int32) (post : Int32 → PS → Prop) : Prop :=
  gR S a0 5 2 fun v1 => (
  sI S v1 0 0 a1 fun S2 => (
  f_X1_findsPath_L17 post 4096 S2 a0 a2 ((1 : Int32) <<< (a1 &&& 31)) 1 0))
abbrev rm_X1_findsPath : Room := { frames := 2, cells := 0, slots := 0, locals := 43 }
set_option maxHeartbeats 4000000 in
set_option maxRecDepth 100000 in
theorem c_X1_findsPath (l : Launch) (D : va_G) (cy : Nat → ClassId) (G : p_GT) (hG : p_ok G) (S : PS) (a0 : Nat) (a1 : Int32) (a2 : Int32) (post : Int32 → PS → Prop) (sz : Nat) (hf : f_X1_findsPath S a0 a1 a2 post) : p_Mi l D cy G S sz yX1_findsPath (Cond.code yX1_findsPath cX1_findsPath 8 (some .boolean) :: wG) rm_X1_findsPath [.ref a0, .int a1, .int a2] 0 0 post := by
  refine q_start hG (Qc := fun A => va_Qi post (p_Post D cy A) A) mf_X1_findsPath (Nat.le_of_ble_eq_true rfl) (own := RX1) rfl ?_
  intro p e s m below meth c A X hr hlk hnm ls hl hH
  have hx := X.1.1
  have hb := X.1.2.1
  replace hl : lv_has ls 8 [(0, .ref a0), (1, .int a1), (2, .int a2)] := hl
  obtain ⟨H, hHe⟩ : ∃ H, H = s.heap := ⟨_, rfl⟩
  obtain ⟨locs, hlo⟩ : ∃ locs : List Loc, locs = [] := ⟨_, rfl⟩
  rw [← hHe, ← hlo] at hH
  show W p l e rm_X1_findsPath s m [.ref a0, .int a1, .int a2].toArray below meth c s.heap [] 0 0 _ _
  rw [← hHe, ← hlo]
  have hL17 : ∀ (n17 : Nat) (S : PS) (l0 : Nat) (l2 : Int32) (l3 : Int32) (l4 : Int32) (l5 : Int32), f_X1_findsPath_L17 post n17 S l0 l2 l3 l4 l5 → ∀ (H : Heap) (locs : List Loc) (ls : Array Slot), p_H D cy S A s H locs → lv_has ls 8 [(0, .ref l0), (2, .int l2), (3, .int l3), (4, .int l4), (5, .int l5)] → W p l e rm_X1_findsPath s m [.ref a0, .int a1, .int a2].toArray below meth c H locs 0 0 (MQ below (va_Qi post (p_Post D cy A) A) [.ref a0, .int a1, .int a2].toArray s 0 0 A) (F0 m 17 ls []) := by
    intro n17
    induction n17 with
    | zero => intro S l0 l2 l3 l4 l5 hf; exact hf.elim
    | succ n17 ih17 =>
      intro S l0 l2 l3 l4 l5 hf H locs ls hH hl
      have hJ123 : ∀ (S : PS) (l2 : Int32) (l3 : Int32), f_X1_findsPath_J123 post S l2 l3 → ∀ (H : Heap) (locs : List Loc) (ls : Array Slot), p_H D cy S A s H locs → lv_has ls 8 [(2, .int l2), (3, .int l3)] → W p l e rm_X1_findsPath s m [.ref a0, .int a1, .int a2].toArray below meth c H locs 0 0 (MQ below (va_Qi post (p_Post D cy A) A) [.ref a0, .int a1, .int a2].toArray s 0 0 A) (F0 m 123 ls []) := by
        intro S l2 l3 hf H locs ls hH hl
        refine lv_iload_n hx hb dX1_findsPath_123 rfl (lv_at hl 1 rfl) ?_
        refine lv_iload_n hx hb dX1_findsPath_124 rfl (lv_at hl 0 rfl) ?_
        refine q_backI0 X hH (q_runSN [.int l3, .int l2] [] X hH hl (c_X7_isIn l D cy G X.2.2.2.1 S l3 l2 _ _ hf) mf_X7_isIn tw_369 (List.mem_of_getElem? (i := 16) rfl) ⟨Nat.le_of_ble_eq_true rfl, Nat.le_of_ble_eq_true rfl⟩ rfl (Nat.le_of_ble_eq_true rfl) dX1_findsPath_125 ⟨Nat.le_of_ble_eq_true rfl, Nat.le_of_ble_eq_true rfl⟩) (fun v2 S1 hf H locs hH => ?_)
        exact q_retZ X hH hr hlk hf (Nat.zero_le _) (Nat.zero_le _) dX1_findsPath_128
      have hL46 : ∀ (n46 : Nat) (S : PS) (l0 : Nat) (l2 : Int32) (l3 : Int32) (l4 : Int32) (l5 : Int32) (l6 : Int32) (l7 : Int32), f_X1_findsPath_L46 post (f_X1_findsPath_L17 post n17) n46 S l0 l2 l3 l4 l5 l6 l7 → ∀ (H : Heap) (locs : List Loc) (ls : Array Slot), p_H D cy S A s H locs → lv_has ls 8 [(0, .ref l0), (2, .int l2), (3, .int l3), (4, .int l4), (5, .int l5), (6, .int l6), (7, .int l7)] → W p l e rm_X1_findsPath s m [.ref a0, .int a1, .int a2].toArray below meth c H locs 0 0 (MQ below (va_Qi post (p_Post D cy A) A) [.ref a0, .int a1, .int a2].toArray s 0 0 A) (F0 m 46 ls []) := by
        intro n46
        induction n46 with
        | zero => intro S l0 l2 l3 l4 l5 l6 l7 hf; exact hf.elim
        | succ n46 ih46 =>
          intro S l0 l2 l3 l4 l5 l6 l7 hf H locs ls hH hl
          have hJ117 : ∀ (S : PS) (l0 : Nat) (l2 : Int32) (l3 : Int32) (l4 : Int32) (l5 : Int32), f_X1_findsPath_J117 post (f_X1_findsPath_L17 post n17) S l0 l2 l3 l4 l5 → ∀ (H : Heap) (locs : List Loc) (ls : Array Slot), p_H D cy S A s H locs → lv_has ls 8 [(0, .ref l0), (2, .int l2), (3, .int l3), (4, .int l4), (5, .int l5)] → W p l e rm_X1_findsPath s m [.ref a0, .int a1, .int a2].toArray below meth c H locs 0 0 (MQ below (va_Qi post (p_Post D cy A) A) [.ref a0, .int a1, .int a2].toArray s 0 0 A) (F0 m 117 ls []) := by
            intro S l0 l2 l3 l4 l5 hf H locs ls hH hl
            refine lv_iinc (v := l5 + 1) (lv' := [(5, .int (l5 + 1)), (0, .ref l0), (2, .int l2), (3, .int l3), (4, .int l4)]) hx hb dX1_findsPath_117 hl (k := 4) rfl rfl (by decide) rfl (fun ls hl => ?_)
            refine lv_goto (tgt := 17) hx hb dX1_findsPath_120 (by decide) ?_
            exact ih17 S l0 l2 l3 l4 (l5 + 1) hf H locs ls hH (lv_sub hl [1, 2, 3, 4, 0] rfl)
          have hJ111 : ∀ (S : PS) (l0 : Nat) (l2 : Int32) (l3 : Int32) (l4 : Int32) (l5 : Int32) (l6 : Int32) (l7 : Int32), f_X1_findsPath_J111 post (f_X1_findsPath_L46 post (f_X1_findsPath_L17 post n17) n46) S l0 l2 l3 l4 l5 l6 l7 → ∀ (H : Heap) (locs : List Loc) (ls : Array Slot), p_H D cy S A s H locs → lv_has ls 8 [(0, .ref l0), (2, .int l2), (3, .int l3), (4, .int l4), (5, .int l5), (6, .int l6), (7, .int l7)] → W p l e rm_X1_findsPath s m [.ref a0, .int a1, .int a2].toArray below meth c H locs 0 0 (MQ below (va_Qi post (p_Post D cy A) A) [.ref a0, .int a1, .int a2].toArray s 0 0 A) (F0 m 111 ls []) := by
            intro S l0 l2 l3 l4 l5 l6 l7 hf H locs ls hH hl
            refine lv_iinc (v := l7 + 1) (lv' := [(7, .int (l7 + 1)), (0, .ref l0), (2, .int l2), (3, .int l3), (4, .int l4), (5, .int l5), (6, .int l6)]) hx hb dX1_findsPath_111 hl (k := 6) rfl rfl (by decide) rfl (fun ls hl => ?_)
            refine lv_goto (tgt := 46) hx hb dX1_findsPath_114 (by decide) ?_
            exact ih46 S l0 l2 l3 l4 l5 l6 (l7 + 1) hf H locs ls hH (lv_sub hl [1, 2, 3, 4, 5, 6, 0] rfl)
          refine lv_iload hx hb dX1_findsPath_46 (lv_at hl 6 rfl) ?_
          refine lv_bipush (v := 9) hx hb dX1_findsPath_48 (by decide) ?_
          refine lv_icmp_ge (tgt := 117) hx hb dX1_findsPath_50 (by decide) (fun c1 => ?_) (fun c1 => ?_)
          · have hf := (if_pos c1).mp hf
            exact hJ117 S l0 l2 l3 l4 l5 hf H locs ls hH (lv_sub hl [0, 1, 2, 3, 4] rfl)
          · have hf := (if_neg c1).mp hf
            refine lv_iload_n hx hb dX1_findsPath_53 rfl (lv_at hl 2 rfl) ?_
            refine lv_iload hx hb dX1_findsPath_54 (lv_at hl 6 rfl) ?_
            refine q_backI0 X hH (q_runSN [.int l3, .int l7] [] X hH hl (c_X7_isIn l D cy G X.2.2.2.1 S l3 l7 _ _ hf) mf_X7_isIn tw_369 (List.mem_of_getElem? (i := 16) rfl) ⟨Nat.le_of_ble_eq_true rfl, Nat.le_of_ble_eq_true rfl⟩ rfl (Nat.le_of_ble_eq_true rfl) dX1_findsPath_56 ⟨Nat.le_of_ble_eq_true rfl, Nat.le_of_ble_eq_true rfl⟩) (fun v3 S2 hf H locs hH => ?_)
            refine lv_if_ne (tgt := 111) hx hb dX1_findsPath_59 (by decide) (fun c4 => ?_) (fun c4 => ?_)
            · have hf := (if_neg c4).mp hf
              exact hJ111 S2 l0 l2 l3 l4 l5 l6 l7 hf H locs ls hH hl
            · have hf := (if_pos c4).mp hf
              refine lv_aload_n hx hb dX1_findsPath_62 rfl (lv_at hl 0 rfl) ?_
              refine lv_iload hx hb dX1_findsPath_63 (lv_at hl 5 rfl) ?_
              refine lv_iload hx hb dX1_findsPath_65 (lv_at hl 6 rfl) ?_
              obtain ⟨hb1, hb2, hf⟩ := hf
              refine q_backI0 X hH (q_runV [.int l6, .int l7] [] X hH hl (c_X1_roomOn l D cy G X.2.2.2.1 S2 l0 l6 l7 _ _ hf) mf_X1_roomOn mv_X1_roomOn tw_521 ⟨Nat.le_of_ble_eq_true rfl, Nat.le_of_ble_eq_true rfl⟩ hb1 hb2 (T := TX1) (N := 3) rfl rfl (Nat.le_of_ble_eq_true rfl) dX1_findsPath_67 ⟨Nat.le_of_ble_eq_true rfl, Nat.le_of_ble_eq_true rfl⟩) (fun v6 S5 hf H locs hH => ?_)
              refine lv_if_le (tgt := 111) hx hb dX1_findsPath_70 (by decide) (fun c7 => ?_) (fun c7 => ?_)
              · have hf := (if_pos c7).mp hf
                exact hJ111 S5 l0 l2 l3 l4 l5 l6 l7 hf H locs ls hH hl
              · have hf := (if_neg c7).mp hf
                refine lv_iload hx hb dX1_findsPath_73 (lv_at hl 3 rfl) ?_
                refine lv_aload_n hx hb dX1_findsPath_75 rfl (lv_at hl 0 rfl) ?_
                refine q_getR (T := TX1) (N := 3) X hH hf iw_X1 rfl (by decide) tw_229 (fun _ h => h) dX1_findsPath_76 (fun v8 hf => ?_)
                refine q_alen X hH hf dX1_findsPath_79 (fun v9 hf => ?_)
                refine lv_icmp_ge (tgt := 111) hx hb dX1_findsPath_80 (by decide) (fun c10 => ?_) (fun c10 => ?_)
                · have hf := (if_pos c10).mp hf
                  exact hJ111 S5 l0 l2 l3 l4 l5 l6 l7 hf H locs ls hH hl
                · have hf := (if_neg c10).mp hf
                  refine lv_iload_n hx hb dX1_findsPath_83 rfl (lv_at hl 2 rfl) ?_
                  refine lv_iconst (v := 1) hx hb dX1_findsPath_84 (by decide) ?_
                  refine lv_iload hx hb dX1_findsPath_85 (lv_at hl 6 rfl) ?_
                  refine lv_ishl hx hb dX1_findsPath_87 ?_
                  refine lv_ior hx hb dX1_findsPath_88 ?_
                  refine lv_istore_n (lv' := [(3, .int (l3 ||| ((1 : Int32) <<< (l7 &&& 31)))), (0, .ref l0), (2, .int l2), (4, .int l4), (5, .int l5), (6, .int l6), (7, .int l7)]) hx hb dX1_findsPath_89 rfl hl (by decide) rfl (fun ls hl => ?_)
                  refine lv_aload_n hx hb dX1_findsPath_90 rfl (lv_at hl 1 rfl) ?_
                  refine q_getR (T := TX1) (N := 3) X hH hf iw_X1 rfl (by decide) tw_228 (fun _ h => h) dX1_findsPath_91 (fun v11 hf => ?_)
                  refine lv_iload hx hb dX1_findsPath_94 (lv_at hl 6 rfl) ?_
                  refine lv_iload hx hb dX1_findsPath_96 (lv_at hl 5 rfl) ?_
                  refine q_iast X hH hf dX1_findsPath_98 (fun S12 hf H locs hH => ?_)
                  refine lv_aload_n hx hb dX1_findsPath_99 rfl (lv_at hl 1 rfl) ?_
                  refine q_getR (T := TX1) (N := 3) X hH hf iw_X1 rfl (by decide) tw_229 (fun _ h => h) dX1_findsPath_100 (fun v13 hf => ?_)
                  refine lv_iload hx hb dX1_findsPath_103 (lv_at hl 3 rfl) ?_
                  refine lv_iload hx hb dX1_findsPath_105 (lv_at hl 6 rfl) ?_
                  refine q_iast X hH hf dX1_findsPath_107 (fun S14 hf H locs hH => ?_)
                  refine lv_iinc (v := l4 + 1) (lv' := [(4, .int (l4 + 1)), (3, .int (l3 ||| ((1 : Int32) <<< (l7 &&& 31)))), (0, .ref l0), (2, .int l2), (5, .int l5), (6, .int l6), (7, .int l7)]) hx hb dX1_findsPath_108 hl (k := 3) rfl rfl (by decide) rfl (fun ls hl => ?_)
                  exact hJ111 S14 l0 l2 (l3 ||| ((1 : Int32) <<< (l7 &&& 31))) (l4 + 1) l5 l6 l7 hf H locs ls hH (lv_sub hl [2, 3, 1, 0, 4, 5, 6] rfl)
      refine lv_iload hx hb dX1_findsPath_17 (lv_at hl 4 rfl) ?_
      refine lv_iload hx hb dX1_findsPath_19 (lv_at hl 3 rfl) ?_
      refine lv_icmp_ge (tgt := 123) hx hb dX1_findsPath_21 (by decide) (fun c1 => ?_) (fun c1 => ?_)
      · have hf := (if_pos c1).mp hf
        exact hJ123 S l2 l3 hf H locs ls hH (lv_sub hl [1, 2] rfl)
      · have hf := (if_neg c1).mp hf
        refine lv_iload hx hb dX1_findsPath_24 (lv_at hl 4 rfl) ?_
        refine lv_aload_n hx hb dX1_findsPath_26 rfl (lv_at hl 0 rfl) ?_
        refine q_getR (T := TX1) (N := 3) X hH hf iw_X1 rfl (by decide) tw_229 (fun _ h => h) dX1_findsPath_27 (fun v2 hf => ?_)
        refine q_alen X hH hf dX1_findsPath_30 (fun v3 hf => ?_)
        refine lv_icmp_ge (tgt := 123) hx hb dX1_findsPath_31 (by decide) (fun c4 => ?_) (fun c4 => ?_)
        · have hf := (if_pos c4).mp hf
          exact hJ123 S l2 l3 hf H locs ls hH (lv_sub hl [1, 2] rfl)
        · have hf := (if_neg c4).mp hf
          refine lv_aload_n hx hb dX1_findsPath_34 rfl (lv_at hl 0 rfl) ?_
          refine q_getR (T := TX1) (N := 3) X hH hf iw_X1 rfl (by decide) tw_229 (fun _ h => h) dX1_findsPath_35 (fun v5 hf => ?_)
          refine lv_iload hx hb dX1_findsPath_38 (lv_at hl 4 rfl) ?_
          refine q_iald X hH hf dX1_findsPath_40 (fun v6 hf => ?_)
          refine lv_istore (lv' := [(6, .int v6), (0, .ref l0), (2, .int l2), (3, .int l3), (4, .int l4), (5, .int l5)]) hx hb dX1_findsPath_41 hl (by decide) rfl (fun ls hl => ?_)
          refine lv_iconst (v := 0) hx hb dX1_findsPath_43 (by decide) ?_
          refine lv_istore (lv' := [(7, .int 0), (6, .int v6), (0, .ref l0), (2, .int l2), (3, .int l3), (4, .int l4), (5, .int l5)]) hx hb dX1_findsPath_44 hl (by decide) rfl (fun ls hl => ?_)
          exact hL46 4096 S l0 l2 l3 l4 l5 v6 0 hf H locs ls hH (lv_sub hl [2, 3, 4, 5, 6, 1, 0] rfl)
  refine lv_iconst (v := 1) hx hb dX1_findsPath_0 (by decide) ?_
  refine lv_iload_n hx hb dX1_findsPath_1 rfl (lv_at hl 1 rfl) ?_
  refine lv_ishl hx hb dX1_findsPath_2 ?_
  refine lv_istore_n (lv' := [(3, .int ((1 : Int32) <<< (a1 &&& 31))), (0, .ref a0), (1, .int a1), (2, .int a2)]) hx hb dX1_findsPath_3 rfl hl (by decide) rfl (fun ls hl => ?_)
  refine lv_iconst (v := 1) hx hb dX1_findsPath_4 (by decide) ?_
  refine lv_istore (lv' := [(4, .int 1), (3, .int ((1 : Int32) <<< (a1 &&& 31))), (0, .ref a0), (1, .int a1), (2, .int a2)]) hx hb dX1_findsPath_5 hl (by decide) rfl (fun ls hl => ?_)
  refine lv_aload_n hx hb dX1_findsPath_7 rfl (lv_at hl 2 rfl) ?_
  refine q_getR (T := TX1) (N := 3) X hH hf iw_X1 rfl (by decide) tw_229 (fun _ h => h) dX1_findsPath_8 (fun v1 hf => ?_)
  refine lv_iconst (v := 0) hx hb dX1_findsPath_11 (by decide) ?_
  refine lv_iload_n hx hb dX1_findsPath_12 rfl (lv_at hl 3 rfl) ?_
  refine q_iast X hH hf dX1_findsPath_13 (fun S2 hf H locs hH => ?_)
  refine lv_iconst (v := 0) hx hb dX1_findsPath_14 (by decide) ?_
  refine lv_istore (lv' := [(5, .int 0), (4, .int 1), (3, .int ((1 : Int32) <<< (a1 &&& 31))), (0, .ref a0), (1, .int a1), (2, .int a2)]) hx hb dX1_findsPath_15 hl (by decide) rfl (fun ls hl => ?_)
  exact hL17 4096 S2 a0 a2 ((1 : Int32) <<< (a1 &&& 31)) 1 0 hf H locs ls hH (lv_sub hl [3, 5, 2, 1, 0] rfl)
-- X1_narrowest
def f_X1_narrowest_L9 (post : Int32 → PS → Prop) : Nat → PS → Nat → Int32 → Int32 → Int32 → Int32 → Prop
  | 0, _, _, _, _, _, _ => False
  | n + 1, S, l0, l1, l3, l4, l5 =>
  if 9 ≤ l5 then
    post l3 S
  else
    if l4 = l1 then
      post l3 S
    else
      isO S l0 5 (
      f_X1_stepBack S l0 l4 fun v4 S3 => (
      isO S3 l0 5 (
      f_X1_roomOn S3 l0 v4 l4 fun v6 S5 => (
      (f_X1_narrowest_L9 post n) S5 l0 l1 (if v6 < l3 then v6 else l3) v4 (l5 + 1)))))
def f_X1_narrowest (S : PS) (a0 : Nat) (a1 : Int32) (a2 : Int32) (post : Int32 → PS → Prop) : Prop :=
  f_X1_narrowest_L9 post 4096 S a0 a1 2147483647 a2 0
abbrev rm_X1_narrowest : Room := { frames := 2, cells := 0, slots := 0, locals := 43 }
set_option maxHeartbeats 4000000 in
set_option maxRecDepth 100000 in
theorem c_X1_narrowest (l : Launch) (D : va_G) (cy : Nat → ClassId) (G : p_GT) (hG : p_ok G) (S : PS) (a0 : Nat) (a1 : Int32) (a2 : Int32) (post : Int32 → PS → Prop) (sz : Nat) (hf : f_X1_narrowest S a0 a1 a2 post) : p_Mi l D cy G S sz yX1_narrowest (Cond.code yX1_narrowest cX1_narrowest 7 (some .int) :: wG) rm_X1_narrowest [.ref a0, .int a1, .int a2] 0 0 post := by
  refine q_start hG (Qc := fun A => va_Qi post (p_Post D cy A) A) mf_X1_narrowest (Nat.le_of_ble_eq_true rfl) (own := RX1) rfl ?_
  intro p e s m below meth c A X hr hlk hnm ls hl hH
  have hx := X.1.1
  have hb := X.1.2.1
  replace hl : lv_has ls 7 [(0, .ref a0), (1, .int a1), (2, .int a2)] := hl
  obtain ⟨H, hHe⟩ : ∃ H, H = s.heap := ⟨_, rfl⟩
  obtain ⟨locs, hlo⟩ : ∃ locs : List Loc, locs = [] := ⟨_, rfl⟩
  rw [← hHe, ← hlo] at hH
  show W p l e rm_X1_narrowest s m [.ref a0, .int a1, .int a2].toArray below meth c s.heap [] 0 0 _ _
  rw [← hHe, ← hlo]
  have hL9 : ∀ (n9 : Nat) (S : PS) (l0 : Nat) (l1 : Int32) (l3 : Int32) (l4 : Int32) (l5 : Int32), f_X1_narrowest_L9 post n9 S l0 l1 l3 l4 l5 → ∀ (H : Heap) (locs : List Loc) (ls : Array Slot), p_H D cy S A s H locs → lv_has ls 7 [(0, .ref l0), (1, .int l1), (3, .int l3), (4, .int l4), (5, .int l5)] → W p l e rm_X1_narrowest s m [.ref a0, .int a1, .int a2].toArray below meth c H locs 0 0 (MQ below (va_Qi post (p_Post D cy A) A) [.ref a0, .int a1, .int a2].toArray s 0 0 A) (F0 m 9 ls []) := by
    intro n9
    induction n9 with
    | zero => intro S l0 l1 l3 l4 l5 hf; exact hf.elim
    | succ n9 ih9 =>
      intro S l0 l1 l3 l4 l5 hf H locs ls hH hl
      refine lv_iload hx hb dX1_narrowest_9 (lv_at hl 4 rfl) ?_
      refine lv_bipush (v := 9) hx hb dX1_narrowest_11 (by decide) ?_
      refine lv_icmp_ge (tgt := 53) hx hb dX1_narrowest_13 (by decide) (fun c1 => ?_) (fun c1 => ?_)
      · have hf := (if_pos c1).mp hf
        refine lv_iload_n hx hb dX1_narrowest_53 rfl (lv_at hl 2 rfl) ?_
        exact q_retI X hH hr hlk hf (Nat.zero_le _) (Nat.zero_le _) dX1_narrowest_54
      · have hf := (if_neg c1).mp hf
        refine lv_iload hx hb dX1_narrowest_16 (lv_at hl 3 rfl) ?_
        refine lv_iload_n hx hb dX1_narrowest_18 rfl (lv_at hl 1 rfl) ?_
        refine lv_icmp_eq (tgt := 53) hx hb dX1_narrowest_19 (by decide) (fun c2 => ?_) (fun c2 => ?_)
        · have hf := (if_pos c2).mp hf
          refine lv_iload_n hx hb dX1_narrowest_53 rfl (lv_at hl 2 rfl) ?_
          exact q_retI X hH hr hlk hf (Nat.zero_le _) (Nat.zero_le _) dX1_narrowest_54
        · have hf := (if_neg c2).mp hf
          refine lv_aload_n hx hb dX1_narrowest_22 rfl (lv_at hl 0 rfl) ?_
          refine lv_iload hx hb dX1_narrowest_23 (lv_at hl 3 rfl) ?_
          obtain ⟨hb1, hb2, hf⟩ := hf
          refine q_backI0 X hH (q_runV [.int l4] [] X hH hl (c_X1_stepBack l D cy G X.2.2.2.1 S l0 l4 _ _ hf) mf_X1_stepBack mv_X1_stepBack tw_534 ⟨Nat.le_of_ble_eq_true rfl, Nat.le_of_ble_eq_true rfl⟩ hb1 hb2 (T := TX1) (N := 3) rfl rfl (Nat.le_of_ble_eq_true rfl) dX1_narrowest_25 ⟨Nat.le_of_ble_eq_true rfl, Nat.le_of_ble_eq_true rfl⟩) (fun v4 S3 hf H locs hH => ?_)
          refine lv_istore (lv' := [(6, .int v4), (0, .ref l0), (1, .int l1), (3, .int l3), (4, .int l4), (5, .int l5)]) hx hb dX1_narrowest_28 hl (by decide) rfl (fun ls hl => ?_)
          refine lv_iload_n hx hb dX1_narrowest_30 rfl (lv_at hl 3 rfl) ?_
          refine lv_aload_n hx hb dX1_narrowest_31 rfl (lv_at hl 1 rfl) ?_
          refine lv_iload hx hb dX1_narrowest_32 (lv_at hl 0 rfl) ?_
          refine lv_iload hx hb dX1_narrowest_34 (lv_at hl 4 rfl) ?_
          obtain ⟨hb1, hb2, hf⟩ := hf
          refine q_backI0 X hH (q_runV [.int v4, .int l4] [.int l3] X hH hl (c_X1_roomOn l D cy G X.2.2.2.1 S3 l0 v4 l4 _ _ hf) mf_X1_roomOn mv_X1_roomOn tw_521 ⟨Nat.le_of_ble_eq_true rfl, Nat.le_of_ble_eq_true rfl⟩ hb1 hb2 (T := TX1) (N := 3) rfl rfl (Nat.le_of_ble_eq_true rfl) dX1_narrowest_36 ⟨Nat.le_of_ble_eq_true rfl, Nat.le_of_ble_eq_true rfl⟩) (fun v6 S5 hf H locs hH => ?_)
          refine q_mmin X hl tw_538 tw_475 tw_110 tw_476 ⟨Nat.le_of_ble_eq_true rfl, Nat.le_of_ble_eq_true rfl⟩ (Nat.le_of_ble_eq_true rfl) (Nat.zero_le _) (Nat.zero_le _) dX1_narrowest_39 ?_
          refine lv_istore_n (lv' := [(3, .int ((if v6 < l3 then v6 else l3))), (6, .int v4), (0, .ref l0), (1, .int l1), (4, .int l4), (5, .int l5)]) hx hb dX1_narrowest_42 rfl hl (by decide) rfl (fun ls hl => ?_)
          refine lv_iload hx hb dX1_narrowest_43 (lv_at hl 1 rfl) ?_
          refine lv_istore (lv' := [(4, .int v4), (3, .int ((if v6 < l3 then v6 else l3))), (6, .int v4), (0, .ref l0), (1, .int l1), (5, .int l5)]) hx hb dX1_narrowest_45 hl (by decide) rfl (fun ls hl => ?_)
          refine lv_iinc (v := l5 + 1) (lv' := [(5, .int (l5 + 1)), (4, .int v4), (3, .int ((if v6 < l3 then v6 else l3))), (6, .int v4), (0, .ref l0), (1, .int l1)]) hx hb dX1_narrowest_47 hl (k := 5) rfl rfl (by decide) rfl (fun ls hl => ?_)
          refine lv_goto (tgt := 9) hx hb dX1_narrowest_50 (by decide) ?_
          exact ih9 S5 l0 l1 (if v6 < l3 then v6 else l3) v4 (l5 + 1) hf H locs ls hH (lv_sub hl [4, 5, 2, 1, 0] rfl)
  refine lv_ldc (v := 2147483647) hx hb X.1.2.2.2.1 (X.1.2.2.2.2 _ tw_533) dX1_narrowest_0 ?_
  refine lv_istore_n (lv' := [(3, .int 2147483647), (0, .ref a0), (1, .int a1), (2, .int a2)]) hx hb dX1_narrowest_2 rfl hl (by decide) rfl (fun ls hl => ?_)
  refine lv_iload_n hx hb dX1_narrowest_3 rfl (lv_at hl 3 rfl) ?_
  refine lv_istore (lv' := [(4, .int a2), (3, .int 2147483647), (0, .ref a0), (1, .int a1), (2, .int a2)]) hx hb dX1_narrowest_4 hl (by decide) rfl (fun ls hl => ?_)
  refine lv_iconst (v := 0) hx hb dX1_narrowest_6 (by decide) ?_
  refine lv_istore (lv' := [(5, .int 0), (4, .int a2), (3, .int 2147483647), (0, .ref a0), (1, .int a1), (2, .int a2)]) hx hb dX1_narrowest_7 hl (by decide) rfl (fun ls hl => ?_)
  exact hL9 4096 S a0 a1 2147483647 a2 0 hf H locs ls hH (lv_sub hl [3, 4, 2, 1, 0] rfl)
-- X1_push
def f_X1_push_L6 (post : PS → Prop) : Nat → PS → Nat → Int32 → Int32 → Int32 → Int32 → Prop
  | 0, _, _, _, _, _, _ => False
  | n + 1, S, l0, l1, l3, l4, l5 =>
  if 9 ≤ l5 then
    post S
  else
    if l4 = l1 then
      post S
    else
      isO S l0 5 (
      f_X1_stepBack S l0 l4 fun v4 S3 => (
      isO S3 l0 5 (
      f_X1_widen S3 l0 v4 l4 (-l3) fun S5 => (
      isO S5 l0 5 (
      f_X1_widen S5 l0 l4 v4 l3 fun S7 => (
      (f_X1_push_L6 post n) S7 l0 l1 l3 v4 (l5 + 1)))))))
def f_X1_push (S : PS) (a0 : Nat) (a1 : Int32) (a2 : Int32) (a3 : Int32) (post : PS → Prop) : Prop :=
  f_X1_push_L6 post 4096 S a0 a1 a3 a2 0
abbrev rm_X1_push : Room := { frames := 2, cells := 0, slots := 0, locals := 44 }
set_option maxHeartbeats 4000000 in
set_option maxRecDepth 100000 in
theorem c_X1_push (l : Launch) (D : va_G) (cy : Nat → ClassId) (G : p_GT) (hG : p_ok G) (S : PS) (a0 : Nat) (a1 : Int32) (a2 : Int32) (a3 : Int32) (post : PS → Prop) (sz : Nat) (hf : f_X1_push S a0 a1 a2 a3 post) : p_Mv l D cy G S sz yX1_push (Cond.code yX1_push cX1_push 7 none :: wG) rm_X1_push [.ref a0, .int a1, .int a2, .int a3] 0 0 post := by
  refine q_start hG (Qc := fun A => va_Qv post (p_Post D cy A) A) mf_X1_push (Nat.le_of_ble_eq_true rfl) (own := RX1) rfl ?_
  intro p e s m below meth c A X hr hlk hnm ls hl hH
  have hx := X.1.1
  have hb := X.1.2.1
  replace hl : lv_has ls 7 [(0, .ref a0), (1, .int a1), (2, .int a2), (3, .int a3)] := hl
  obtain ⟨H, hHe⟩ : ∃ H, H = s.heap := ⟨_, rfl⟩
  obtain ⟨locs, hlo⟩ : ∃ locs : List Loc, locs = [] := ⟨_, rfl⟩
  rw [← hHe, ← hlo] at hH
  show W p l e rm_X1_push s m [.ref a0, .int a1, .int a2, .int a3].toArray below meth c s.heap [] 0 0 _ _
  rw [← hHe, ← hlo]
  have hL6 : ∀ (n6 : Nat) (S : PS) (l0 : Nat) (l1 : Int32) (l3 : Int32) (l4 : Int32) (l5 : Int32), f_X1_push_L6 post n6 S l0 l1 l3 l4 l5 → ∀ (H : Heap) (locs : List Loc) (ls : Array Slot), p_H D cy S A s H locs → lv_has ls 7 [(0, .ref l0), (1, .int l1), (3, .int l3), (4, .int l4), (5, .int l5)] → W p l e rm_X1_push s m [.ref a0, .int a1, .int a2, .int a3].toArray below meth c H locs 0 0 (MQ below (va_Qv post (p_Post D cy A) A) [.ref a0, .int a1, .int a2, .int a3].toArray s 0 0 A) (F0 m 6 ls []) := by
    intro n6
    induction n6 with
    | zero => intro S l0 l1 l3 l4 l5 hf; exact hf.elim
    | succ n6 ih6 =>
      intro S l0 l1 l3 l4 l5 hf H locs ls hH hl
      refine lv_iload hx hb dX1_push_6 (lv_at hl 4 rfl) ?_
      refine lv_bipush (v := 9) hx hb dX1_push_8 (by decide) ?_
      refine lv_icmp_ge (tgt := 56) hx hb dX1_push_10 (by decide) (fun c1 => ?_) (fun c1 => ?_)
      · have hf := (if_pos c1).mp hf
        exact q_retV X hH hr hlk hf (Nat.zero_le _) (Nat.zero_le _) dX1_push_56
      · have hf := (if_neg c1).mp hf
        refine lv_iload hx hb dX1_push_13 (lv_at hl 3 rfl) ?_
        refine lv_iload_n hx hb dX1_push_15 rfl (lv_at hl 1 rfl) ?_
        refine lv_icmp_eq (tgt := 56) hx hb dX1_push_16 (by decide) (fun c2 => ?_) (fun c2 => ?_)
        · have hf := (if_pos c2).mp hf
          exact q_retV X hH hr hlk hf (Nat.zero_le _) (Nat.zero_le _) dX1_push_56
        · have hf := (if_neg c2).mp hf
          refine lv_aload_n hx hb dX1_push_19 rfl (lv_at hl 0 rfl) ?_
          refine lv_iload hx hb dX1_push_20 (lv_at hl 3 rfl) ?_
          obtain ⟨hb1, hb2, hf⟩ := hf
          refine q_backI0 X hH (q_runV [.int l4] [] X hH hl (c_X1_stepBack l D cy G X.2.2.2.1 S l0 l4 _ _ hf) mf_X1_stepBack mv_X1_stepBack tw_534 ⟨Nat.le_of_ble_eq_true rfl, Nat.le_of_ble_eq_true rfl⟩ hb1 hb2 (T := TX1) (N := 3) rfl rfl (Nat.le_of_ble_eq_true rfl) dX1_push_22 ⟨Nat.le_of_ble_eq_true rfl, Nat.le_of_ble_eq_true rfl⟩) (fun v4 S3 hf H locs hH => ?_)
          refine lv_istore (lv' := [(6, .int v4), (0, .ref l0), (1, .int l1), (3, .int l3), (4, .int l4), (5, .int l5)]) hx hb dX1_push_25 hl (by decide) rfl (fun ls hl => ?_)
          refine lv_aload_n hx hb dX1_push_27 rfl (lv_at hl 1 rfl) ?_
          refine lv_iload hx hb dX1_push_28 (lv_at hl 0 rfl) ?_
          refine lv_iload hx hb dX1_push_30 (lv_at hl 4 rfl) ?_
          refine lv_iload_n hx hb dX1_push_32 rfl (lv_at hl 3 rfl) ?_
          refine lv_ineg hx hb dX1_push_33 ?_
          obtain ⟨hb1, hb2, hf⟩ := hf
          refine q_backV0 X hH (q_runV [.int v4, .int l4, .int (-l3)] [] X hH hl (c_X1_widen l D cy G X.2.2.2.1 S3 l0 v4 l4 (-l3) _ _ hf) mf_X1_widen mv_X1_widen tw_543 ⟨Nat.le_of_ble_eq_true rfl, Nat.le_of_ble_eq_true rfl⟩ hb1 hb2 (T := TX1) (N := 3) rfl rfl (Nat.le_of_ble_eq_true rfl) dX1_push_34 ⟨Nat.le_of_ble_eq_true rfl, Nat.le_of_ble_eq_true rfl⟩) (fun S5 hf H locs hH => ?_)
          refine lv_aload_n hx hb dX1_push_37 rfl (lv_at hl 1 rfl) ?_
          refine lv_iload hx hb dX1_push_38 (lv_at hl 4 rfl) ?_
          refine lv_iload hx hb dX1_push_40 (lv_at hl 0 rfl) ?_
          refine lv_iload_n hx hb dX1_push_42 rfl (lv_at hl 3 rfl) ?_
          obtain ⟨hb1, hb2, hf⟩ := hf
          refine q_backV0 X hH (q_runV [.int l4, .int v4, .int l3] [] X hH hl (c_X1_widen l D cy G X.2.2.2.1 S5 l0 l4 v4 l3 _ _ hf) mf_X1_widen mv_X1_widen tw_543 ⟨Nat.le_of_ble_eq_true rfl, Nat.le_of_ble_eq_true rfl⟩ hb1 hb2 (T := TX1) (N := 3) rfl rfl (Nat.le_of_ble_eq_true rfl) dX1_push_43 ⟨Nat.le_of_ble_eq_true rfl, Nat.le_of_ble_eq_true rfl⟩) (fun S7 hf H locs hH => ?_)
          refine lv_iload hx hb dX1_push_46 (lv_at hl 0 rfl) ?_
          refine lv_istore (lv' := [(4, .int v4), (6, .int v4), (0, .ref l0), (1, .int l1), (3, .int l3), (5, .int l5)]) hx hb dX1_push_48 hl (by decide) rfl (fun ls hl => ?_)
          refine lv_iinc (v := l5 + 1) (lv' := [(5, .int (l5 + 1)), (4, .int v4), (6, .int v4), (0, .ref l0), (1, .int l1), (3, .int l3)]) hx hb dX1_push_50 hl (k := 5) rfl rfl (by decide) rfl (fun ls hl => ?_)
          refine lv_goto (tgt := 6) hx hb dX1_push_53 (by decide) ?_
          exact ih6 S7 l0 l1 l3 v4 (l5 + 1) hf H locs ls hH (lv_sub hl [3, 4, 5, 1, 0] rfl)
  refine lv_iload_n hx hb dX1_push_0 rfl (lv_at hl 2 rfl) ?_
  refine lv_istore (lv' := [(4, .int a2), (0, .ref a0), (1, .int a1), (2, .int a2), (3, .int a3)]) hx hb dX1_push_1 hl (by decide) rfl (fun ls hl => ?_)
  refine lv_iconst (v := 0) hx hb dX1_push_3 (by decide) ?_
  refine lv_istore (lv' := [(5, .int 0), (4, .int a2), (0, .ref a0), (1, .int a1), (2, .int a2), (3, .int a3)]) hx hb dX1_push_4 hl (by decide) rfl (fun ls hl => ?_)
  exact hL6 4096 S a0 a1 a3 a2 0 hf H locs ls hH (lv_sub hl [2, 3, 5, 1, 0] rfl)
