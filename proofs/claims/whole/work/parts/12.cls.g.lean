-- X7_doesOrders
def f_X7_doesOrders_J118 (post : Int32 → PS → Prop) (S : PS) (bc bs : Nat) (l0 : Nat) : Prop :=
  gR S l0 11 3 fun v1 => (
  gR S l0 11 2 fun v2 => (
  isO S v1 6 (
  ∃ mc4 ms4 : Nat, mc4 ≤ bc ∧ ms4 ≤ bs ∧ (f_X2_keep S v1 v2 mc4 ms4 fun S3 => (
  nZ .boolean 1 (post 1 S3))))))
def f_X7_doesOrders_J78 (post : Int32 → PS → Prop) (S : PS) (bc bs : Nat) (l0 : Nat) (l1 : Int32) : Prop :=
  gR S l0 11 8 fun v1 => (
  isO S v1 8 (
  f_X4_putBehind S v1 8 l1 fun S2 => (
  gR S2 l0 11 0 fun v4 => (
  gR S2 l0 11 2 fun v5 => (
  isO S2 v4 10 (
  f_X6_copyFrom S2 v4 v5 fun S6 => (
  nZ .boolean 0 (post 0 S6))))))))
def f_X7_doesOrders_L13 (post : Int32 → PS → Prop) : Nat → PS → Nat → Nat → Nat → Int32 → Prop
  | 0, _, _, _, _, _ => False
  | n + 1, S, bc, bs, l0, l1 =>
  gR S l0 11 7 fun v1 => (
  isO S v1 9 (
  f_X5_orders S v1 fun v3 S2 => (
  if v3 ≤ l1 then
    f_X7_doesOrders_J118 post S2 bc bs l0
  else
    gR S2 l0 11 7 fun v5 => (
    isO S2 v5 9 (
    f_X5_kindOf S2 v5 l1 fun v7 S6 => (
    gR S6 l0 11 7 fun v8 => (
    isO S6 v8 9 (
    f_X5_numberOf S6 v8 l1 0 fun v10 S9 => (
    gR S9 l0 11 7 fun v11 => (
    isO S9 v11 9 (
    f_X5_numberOf S9 v11 l1 1 fun v13 S12 => (
    gR S12 l0 11 7 fun v14 => (
    isO S12 v14 9 (
    f_X5_numberOf S12 v14 l1 2 fun v16 S15 => (
    isO S15 l0 11 (
    f_X7_refuses S15 l0 v7 v10 v13 v16 fun v18 S17 => (
    if v18 = 0 then
      isO S17 l0 11 (
      f_X7_done S17 l0 v7 v10 v13 v16 fun v21 S20 => (
      (f_X7_doesOrders_L13 post n) S20 bc bs l0 (l1 + 1)))
    else
      f_X7_doesOrders_J78 post S17 bc bs l0 l1)))))))))))))))))
def f_X7_doesOrders (S : PS) (a0 : Nat) (bc bs : Nat) (post : Int32 → PS → Prop) : Prop :=
  gR S a0 11 2 fun v1 => (
  gR S a0 11 0 fun v2 => (
  isO S v1 10 (
  f_X6_copyFrom S v1 v2 fun S3 => (
  f_X7_doesOrders_L13 post 4096 S3 bc bs a0 0))))
abbrev rm_X7_doesOrders (mc ms : Nat) : Room := { frames := 6, cells := mc, slots := ms, locals := 132 }
set_option maxHeartbeats 4000000 in
set_option maxRecDepth 100000 in
theorem c_X7_doesOrders (l : Launch) (D : va_G) (cy : Nat → ClassId) (G : p_GT) (hG : p_ok G) (S : PS) (a0 : Nat) (mc ms : Nat) (post : Int32 → PS → Prop) (sz : Nat) (hf : f_X7_doesOrders S a0 mc ms post) : p_Mi l D cy G S sz yX7_doesOrders (Cond.code yX7_doesOrders cX7_doesOrders 6 (some .boolean) :: wG) (rm_X7_doesOrders mc ms) [.ref a0] mc ms post := by
  refine q_start hG (Qc := fun A => va_Qi post (p_Post D cy A) A) mf_X7_doesOrders (Nat.le_of_ble_eq_true rfl) (own := RX7) rfl ?_
  intro p e s m below meth c A X hr hlk hnm ls hl hH
  have hx := X.1.1
  have hb := X.1.2.1
  replace hl : lv_has ls 6 [(0, .ref a0)] := hl
  have main : ∀ (H : Heap) (locs : List Loc) (ls : Array Slot) (cells slots bc bs : Nat), f_X7_doesOrders S a0 bc bs post → p_H D cy S A s H locs → lv_has ls 6 [(0, .ref a0)] → cells + bc ≤ mc ∧ slots + bs ≤ ms → W p l e (rm_X7_doesOrders mc ms) s m [.ref a0].toArray below meth c H locs cells slots (MQ below (va_Qi post (p_Post D cy A) A) [.ref a0].toArray s mc ms A) (F0 m 0 ls []) := by
    intro H locs ls cells slots bc bs hf hH hl hB
    have hL13 : ∀ (n13 : Nat) (S : PS) (bc bs : Nat) (l0 : Nat) (l1 : Int32), f_X7_doesOrders_L13 post n13 S bc bs l0 l1 → ∀ (H : Heap) (locs : List Loc) (ls : Array Slot) (cells slots : Nat), p_H D cy S A s H locs → lv_has ls 6 [(0, .ref l0), (1, .int l1)] → cells + bc ≤ mc ∧ slots + bs ≤ ms → W p l e (rm_X7_doesOrders mc ms) s m [.ref a0].toArray below meth c H locs cells slots (MQ below (va_Qi post (p_Post D cy A) A) [.ref a0].toArray s mc ms A) (F0 m 13 ls []) := by
      intro n13
      induction n13 with
      | zero => intro S bc bs l0 l1 hf; exact hf.elim
      | succ n13 ih13 =>
        intro S bc bs l0 l1 hf H locs ls cells slots hH hl hB
        have hJ118 : ∀ (S : PS) (bc bs : Nat) (l0 : Nat), f_X7_doesOrders_J118 post S bc bs l0 → ∀ (H : Heap) (locs : List Loc) (ls : Array Slot) (cells slots : Nat), p_H D cy S A s H locs → lv_has ls 6 [(0, .ref l0)] → cells + bc ≤ mc ∧ slots + bs ≤ ms → W p l e (rm_X7_doesOrders mc ms) s m [.ref a0].toArray below meth c H locs cells slots (MQ below (va_Qi post (p_Post D cy A) A) [.ref a0].toArray s mc ms A) (F0 m 118 ls []) := by
          intro S bc bs l0 hf H locs ls cells slots hH hl hB
          refine lv_aload_n hx hb dX7_doesOrders_118 rfl (lv_at hl 0 rfl) ?_
          refine q_getR (T := TX7) (N := 12) X hH hf iw_X7 rfl (by decide) tw_322 (fun _ h => h) dX7_doesOrders_119 (fun v1 hf => ?_)
          refine lv_aload_n hx hb dX7_doesOrders_122 rfl (lv_at hl 0 rfl) ?_
          refine q_getR (T := TX7) (N := 12) X hH hf iw_X7 rfl (by decide) tw_321 (fun _ h => h) dX7_doesOrders_123 (fun v2 hf => ?_)
          obtain ⟨hb1, hb2, hf⟩ := hf
          obtain ⟨mc4, ms4, hm1, hs1, hf⟩ := hf
          refine q_backVB X hH hB hm1 hs1 (q_runV [.ref v2] [] X hH hl (c_X2_keep l D cy G X.2.2.2.1 S v1 v2 mc4 ms4 _ _ hf) mf_X2_keep mv_X2_keep tw_1007 ⟨Nat.le_of_ble_eq_true rfl, Nat.le_of_ble_eq_true rfl⟩ hb1 hb2 (T := TX2) (N := 3) rfl rfl (Nat.le_of_ble_eq_true rfl) dX7_doesOrders_126 ⟨Nat.le_trans (Nat.add_le_add_left hm1 _) hB.1, Nat.le_trans (Nat.add_le_add_left hs1 _) hB.2⟩) (fun S3 hf H locs cells slots hH hB => ?_)
          refine lv_iconst (v := 1) hx hb dX7_doesOrders_129 (by decide) ?_
          exact q_retZ X hH hr hlk hf (Nat.le_trans (Nat.le_add_right _ _) hB.1) (Nat.le_trans (Nat.le_add_right _ _) hB.2) dX7_doesOrders_130
        have hJ78 : ∀ (S : PS) (bc bs : Nat) (l0 : Nat) (l1 : Int32), f_X7_doesOrders_J78 post S bc bs l0 l1 → ∀ (H : Heap) (locs : List Loc) (ls : Array Slot) (cells slots : Nat), p_H D cy S A s H locs → lv_has ls 6 [(0, .ref l0), (1, .int l1)] → cells + bc ≤ mc ∧ slots + bs ≤ ms → W p l e (rm_X7_doesOrders mc ms) s m [.ref a0].toArray below meth c H locs cells slots (MQ below (va_Qi post (p_Post D cy A) A) [.ref a0].toArray s mc ms A) (F0 m 78 ls []) := by
          intro S bc bs l0 l1 hf H locs ls cells slots hH hl hB
          refine lv_aload_n hx hb dX7_doesOrders_78 rfl (lv_at hl 0 rfl) ?_
          refine q_getR (T := TX7) (N := 12) X hH hf iw_X7 rfl (by decide) tw_327 (fun _ h => h) dX7_doesOrders_79 (fun v1 hf => ?_)
          refine lv_bipush (v := 8) hx hb dX7_doesOrders_82 (by decide) ?_
          refine lv_iload_n hx hb dX7_doesOrders_84 rfl (lv_at hl 1 rfl) ?_
          obtain ⟨hb1, hb2, hf⟩ := hf
          refine q_backV0 X hH (q_runV [.int 8, .int l1] [] X hH hl (c_X4_putBehind l D cy G X.2.2.2.1 S v1 8 l1 _ _ hf) mf_X4_putBehind mv_X4_putBehind tw_1481 ⟨Nat.le_of_ble_eq_true rfl, Nat.le_of_ble_eq_true rfl⟩ hb1 hb2 (T := TX4) (N := 4) rfl rfl (Nat.le_of_ble_eq_true rfl) dX7_doesOrders_85 ⟨Nat.le_trans (Nat.le_add_right _ _) hB.1, Nat.le_trans (Nat.le_add_right _ _) hB.2⟩) (fun S2 hf H locs hH => ?_)
          refine lv_aload_n hx hb dX7_doesOrders_88 rfl (lv_at hl 0 rfl) ?_
          refine q_getR (T := TX7) (N := 12) X hH hf iw_X7 rfl (by decide) tw_319 (fun _ h => h) dX7_doesOrders_89 (fun v4 hf => ?_)
          refine lv_aload_n hx hb dX7_doesOrders_92 rfl (lv_at hl 0 rfl) ?_
          refine q_getR (T := TX7) (N := 12) X hH hf iw_X7 rfl (by decide) tw_321 (fun _ h => h) dX7_doesOrders_93 (fun v5 hf => ?_)
          obtain ⟨hb1, hb2, hf⟩ := hf
          refine q_backV0 X hH (q_runV [.ref v5] [] X hH hl (c_X6_copyFrom l D cy G X.2.2.2.1 S2 v4 v5 _ _ hf) mf_X6_copyFrom mv_X6_copyFrom tw_944 ⟨Nat.le_of_ble_eq_true rfl, Nat.le_of_ble_eq_true rfl⟩ hb1 hb2 (T := TX6) (N := 6) rfl rfl (Nat.le_of_ble_eq_true rfl) dX7_doesOrders_96 ⟨Nat.le_trans (Nat.le_add_right _ _) hB.1, Nat.le_trans (Nat.le_add_right _ _) hB.2⟩) (fun S6 hf H locs hH => ?_)
          refine lv_iconst (v := 0) hx hb dX7_doesOrders_99 (by decide) ?_
          exact q_retZ X hH hr hlk hf (Nat.le_trans (Nat.le_add_right _ _) hB.1) (Nat.le_trans (Nat.le_add_right _ _) hB.2) dX7_doesOrders_100
        refine lv_iload_n hx hb dX7_doesOrders_13 rfl (lv_at hl 1 rfl) ?_
        refine lv_aload_n hx hb dX7_doesOrders_14 rfl (lv_at hl 0 rfl) ?_
        refine q_getR (T := TX7) (N := 12) X hH hf iw_X7 rfl (by decide) tw_326 (fun _ h => h) dX7_doesOrders_15 (fun v1 hf => ?_)
        obtain ⟨hb1, hb2, hf⟩ := hf
        refine q_backI0 X hH (q_runV [] [.int l1] X hH hl (c_X5_orders l D cy G X.2.2.2.1 S v1 _ _ hf) mf_X5_orders mv_X5_orders tw_1469 ⟨Nat.le_of_ble_eq_true rfl, Nat.le_of_ble_eq_true rfl⟩ hb1 hb2 (T := TX5) (N := 7) rfl rfl (Nat.le_of_ble_eq_true rfl) dX7_doesOrders_18 ⟨Nat.le_trans (Nat.le_add_right _ _) hB.1, Nat.le_trans (Nat.le_add_right _ _) hB.2⟩) (fun v3 S2 hf H locs hH => ?_)
        refine lv_icmp_ge (tgt := 118) hx hb dX7_doesOrders_21 (by decide) (fun c4 => ?_) (fun c4 => ?_)
        · have hf := (if_pos c4).mp hf
          exact hJ118 S2 bc bs l0 hf H locs ls cells slots hH (lv_sub hl [0] rfl) hB
        · have hf := (if_neg c4).mp hf
          refine lv_aload_n hx hb dX7_doesOrders_24 rfl (lv_at hl 0 rfl) ?_
          refine q_getR (T := TX7) (N := 12) X hH hf iw_X7 rfl (by decide) tw_326 (fun _ h => h) dX7_doesOrders_25 (fun v5 hf => ?_)
          refine lv_iload_n hx hb dX7_doesOrders_28 rfl (lv_at hl 1 rfl) ?_
          obtain ⟨hb1, hb2, hf⟩ := hf
          refine q_backI0 X hH (q_runV [.int l1] [] X hH hl (c_X5_kindOf l D cy G X.2.2.2.1 S2 v5 l1 _ _ hf) mf_X5_kindOf mv_X5_kindOf tw_1473 ⟨Nat.le_of_ble_eq_true rfl, Nat.le_of_ble_eq_true rfl⟩ hb1 hb2 (T := TX5) (N := 7) rfl rfl (Nat.le_of_ble_eq_true rfl) dX7_doesOrders_29 ⟨Nat.le_trans (Nat.le_add_right _ _) hB.1, Nat.le_trans (Nat.le_add_right _ _) hB.2⟩) (fun v7 S6 hf H locs hH => ?_)
          refine lv_istore_n (lv' := [(2, .int v7), (0, .ref l0), (1, .int l1)]) hx hb dX7_doesOrders_32 rfl hl (by decide) rfl (fun ls hl => ?_)
          refine lv_aload_n hx hb dX7_doesOrders_33 rfl (lv_at hl 1 rfl) ?_
          refine q_getR (T := TX7) (N := 12) X hH hf iw_X7 rfl (by decide) tw_326 (fun _ h => h) dX7_doesOrders_34 (fun v8 hf => ?_)
          refine lv_iload_n hx hb dX7_doesOrders_37 rfl (lv_at hl 2 rfl) ?_
          refine lv_iconst (v := 0) hx hb dX7_doesOrders_38 (by decide) ?_
          obtain ⟨hb1, hb2, hf⟩ := hf
          refine q_backI0 X hH (q_runV [.int l1, .int 0] [] X hH hl (c_X5_numberOf l D cy G X.2.2.2.1 S6 v8 l1 0 _ _ hf) mf_X5_numberOf mv_X5_numberOf tw_1477 ⟨Nat.le_of_ble_eq_true rfl, Nat.le_of_ble_eq_true rfl⟩ hb1 hb2 (T := TX5) (N := 7) rfl rfl (Nat.le_of_ble_eq_true rfl) dX7_doesOrders_39 ⟨Nat.le_trans (Nat.le_add_right _ _) hB.1, Nat.le_trans (Nat.le_add_right _ _) hB.2⟩) (fun v10 S9 hf H locs hH => ?_)
          refine lv_istore_n (lv' := [(3, .int v10), (2, .int v7), (0, .ref l0), (1, .int l1)]) hx hb dX7_doesOrders_42 rfl hl (by decide) rfl (fun ls hl => ?_)
          refine lv_aload_n hx hb dX7_doesOrders_43 rfl (lv_at hl 2 rfl) ?_
          refine q_getR (T := TX7) (N := 12) X hH hf iw_X7 rfl (by decide) tw_326 (fun _ h => h) dX7_doesOrders_44 (fun v11 hf => ?_)
          refine lv_iload_n hx hb dX7_doesOrders_47 rfl (lv_at hl 3 rfl) ?_
          refine lv_iconst (v := 1) hx hb dX7_doesOrders_48 (by decide) ?_
          obtain ⟨hb1, hb2, hf⟩ := hf
          refine q_backI0 X hH (q_runV [.int l1, .int 1] [] X hH hl (c_X5_numberOf l D cy G X.2.2.2.1 S9 v11 l1 1 _ _ hf) mf_X5_numberOf mv_X5_numberOf tw_1477 ⟨Nat.le_of_ble_eq_true rfl, Nat.le_of_ble_eq_true rfl⟩ hb1 hb2 (T := TX5) (N := 7) rfl rfl (Nat.le_of_ble_eq_true rfl) dX7_doesOrders_49 ⟨Nat.le_trans (Nat.le_add_right _ _) hB.1, Nat.le_trans (Nat.le_add_right _ _) hB.2⟩) (fun v13 S12 hf H locs hH => ?_)
          refine lv_istore (lv' := [(4, .int v13), (3, .int v10), (2, .int v7), (0, .ref l0), (1, .int l1)]) hx hb dX7_doesOrders_52 hl (by decide) rfl (fun ls hl => ?_)
          refine lv_aload_n hx hb dX7_doesOrders_54 rfl (lv_at hl 3 rfl) ?_
          refine q_getR (T := TX7) (N := 12) X hH hf iw_X7 rfl (by decide) tw_326 (fun _ h => h) dX7_doesOrders_55 (fun v14 hf => ?_)
          refine lv_iload_n hx hb dX7_doesOrders_58 rfl (lv_at hl 4 rfl) ?_
          refine lv_iconst (v := 2) hx hb dX7_doesOrders_59 (by decide) ?_
          obtain ⟨hb1, hb2, hf⟩ := hf
          refine q_backI0 X hH (q_runV [.int l1, .int 2] [] X hH hl (c_X5_numberOf l D cy G X.2.2.2.1 S12 v14 l1 2 _ _ hf) mf_X5_numberOf mv_X5_numberOf tw_1477 ⟨Nat.le_of_ble_eq_true rfl, Nat.le_of_ble_eq_true rfl⟩ hb1 hb2 (T := TX5) (N := 7) rfl rfl (Nat.le_of_ble_eq_true rfl) dX7_doesOrders_60 ⟨Nat.le_trans (Nat.le_add_right _ _) hB.1, Nat.le_trans (Nat.le_add_right _ _) hB.2⟩) (fun v16 S15 hf H locs hH => ?_)
          refine lv_istore (lv' := [(5, .int v16), (4, .int v13), (3, .int v10), (2, .int v7), (0, .ref l0), (1, .int l1)]) hx hb dX7_doesOrders_63 hl (by decide) rfl (fun ls hl => ?_)
          refine lv_aload_n hx hb dX7_doesOrders_65 rfl (lv_at hl 4 rfl) ?_
          refine lv_iload_n hx hb dX7_doesOrders_66 rfl (lv_at hl 3 rfl) ?_
          refine lv_iload_n hx hb dX7_doesOrders_67 rfl (lv_at hl 2 rfl) ?_
          refine lv_iload hx hb dX7_doesOrders_68 (lv_at hl 1 rfl) ?_
          refine lv_iload hx hb dX7_doesOrders_70 (lv_at hl 0 rfl) ?_
          obtain ⟨hb1, hb2, hf⟩ := hf
          refine q_backI0 X hH (q_runV [.int v7, .int v10, .int v13, .int v16] [] X hH hl (c_X7_refuses l D cy G X.2.2.2.1 S15 l0 v7 v10 v13 v16 _ _ hf) mf_X7_refuses mv_X7_refuses tw_957 ⟨Nat.le_of_ble_eq_true rfl, Nat.le_of_ble_eq_true rfl⟩ hb1 hb2 (T := TX7) (N := 12) rfl rfl (Nat.le_of_ble_eq_true rfl) dX7_doesOrders_72 ⟨Nat.le_trans (Nat.le_add_right _ _) hB.1, Nat.le_trans (Nat.le_add_right _ _) hB.2⟩) (fun v18 S17 hf H locs hH => ?_)
          refine lv_if_eq (tgt := 101) hx hb dX7_doesOrders_75 (by decide) (fun c19 => ?_) (fun c19 => ?_)
          · have hf := (if_pos c19).mp hf
            refine lv_aload_n hx hb dX7_doesOrders_101 rfl (lv_at hl 4 rfl) ?_
            refine lv_iload_n hx hb dX7_doesOrders_102 rfl (lv_at hl 3 rfl) ?_
            refine lv_iload_n hx hb dX7_doesOrders_103 rfl (lv_at hl 2 rfl) ?_
            refine lv_iload hx hb dX7_doesOrders_104 (lv_at hl 1 rfl) ?_
            refine lv_iload hx hb dX7_doesOrders_106 (lv_at hl 0 rfl) ?_
            obtain ⟨hb1, hb2, hf⟩ := hf
            refine q_backI0 X hH (q_runV [.int v7, .int v10, .int v13, .int v16] [] X hH hl (c_X7_done l D cy G X.2.2.2.1 S17 l0 v7 v10 v13 v16 _ _ hf) mf_X7_done mv_X7_done tw_1014 ⟨Nat.le_of_ble_eq_true rfl, Nat.le_of_ble_eq_true rfl⟩ hb1 hb2 (T := TX7) (N := 12) rfl rfl (Nat.le_of_ble_eq_true rfl) dX7_doesOrders_108 ⟨Nat.le_trans (Nat.le_add_right _ _) hB.1, Nat.le_trans (Nat.le_add_right _ _) hB.2⟩) (fun v21 S20 hf H locs hH => ?_)
            refine lv_pop hx hb dX7_doesOrders_111 rfl ?_
            refine lv_iinc (v := l1 + 1) (lv' := [(1, .int (l1 + 1)), (5, .int v16), (4, .int v13), (3, .int v10), (2, .int v7), (0, .ref l0)]) hx hb dX7_doesOrders_112 hl (k := 5) rfl rfl (by decide) rfl (fun ls hl => ?_)
            refine lv_goto (tgt := 13) hx hb dX7_doesOrders_115 (by decide) ?_
            exact ih13 S20 bc bs l0 (l1 + 1) hf H locs ls cells slots hH (lv_sub hl [5, 0] rfl) hB
          · have hf := (if_neg c19).mp hf
            exact hJ78 S17 bc bs l0 l1 hf H locs ls cells slots hH (lv_sub hl [4, 5] rfl) hB
    refine lv_aload_n hx hb dX7_doesOrders_0 rfl (lv_at hl 0 rfl) ?_
    refine q_getR (T := TX7) (N := 12) X hH hf iw_X7 rfl (by decide) tw_321 (fun _ h => h) dX7_doesOrders_1 (fun v1 hf => ?_)
    refine lv_aload_n hx hb dX7_doesOrders_4 rfl (lv_at hl 0 rfl) ?_
    refine q_getR (T := TX7) (N := 12) X hH hf iw_X7 rfl (by decide) tw_319 (fun _ h => h) dX7_doesOrders_5 (fun v2 hf => ?_)
    obtain ⟨hb1, hb2, hf⟩ := hf
    refine q_backV0 X hH (q_runV [.ref v2] [] X hH hl (c_X6_copyFrom l D cy G X.2.2.2.1 S v1 v2 _ _ hf) mf_X6_copyFrom mv_X6_copyFrom tw_944 ⟨Nat.le_of_ble_eq_true rfl, Nat.le_of_ble_eq_true rfl⟩ hb1 hb2 (T := TX6) (N := 6) rfl rfl (Nat.le_of_ble_eq_true rfl) dX7_doesOrders_8 ⟨Nat.le_trans (Nat.le_add_right _ _) hB.1, Nat.le_trans (Nat.le_add_right _ _) hB.2⟩) (fun S3 hf H locs hH => ?_)
    refine lv_iconst (v := 0) hx hb dX7_doesOrders_11 (by decide) ?_
    refine lv_istore_n (lv' := [(1, .int 0), (0, .ref a0)]) hx hb dX7_doesOrders_12 rfl hl (by decide) rfl (fun ls hl => ?_)
    exact hL13 4096 S3 bc bs a0 0 hf H locs ls cells slots hH (lv_sub hl [1, 0] rfl) hB
  exact main s.heap [] ls 0 0 mc ms hf hH hl ⟨by omega, by omega⟩
-- X7_leastByPhases
def f_X7_leastByPhases (S : PS) (a0 : Nat) (a1 : Nat) (post : Int32 → PS → Prop) : Prop :=
  gR S a0 11 4 fun v1 => (
  isO S v1 7 (
  f_X3_measure S v1 a1 fun S2 => (
  gR S2 a0 11 4 fun v4 => (
  gR S2 a0 11 4 fun v5 => (
  isO S2 v5 7 (
  f_X3_leastPhase S2 v5 fun v7 S6 => (
  isO S6 v4 7 (
  f_X3_cutOf S6 v4 v7 fun v9 S8 => (
  post v9 S8)))))))))
abbrev rm_X7_leastByPhases : Room := { frames := 4, cells := 0, slots := 0, locals := 94 }
set_option maxHeartbeats 4000000 in
set_option maxRecDepth 100000 in
theorem c_X7_leastByPhases (l : Launch) (D : va_G) (cy : Nat → ClassId) (G : p_GT) (hG : p_ok G) (S : PS) (a0 : Nat) (a1 : Nat) (post : Int32 → PS → Prop) (sz : Nat) (hf : f_X7_leastByPhases S a0 a1 post) : p_Mi l D cy G S sz yX7_leastByPhases (Cond.code yX7_leastByPhases cX7_leastByPhases 2 (some .int) :: wG) rm_X7_leastByPhases [.ref a0, .ref a1] 0 0 post := by
  refine q_start hG (Qc := fun A => va_Qi post (p_Post D cy A) A) mf_X7_leastByPhases (Nat.le_of_ble_eq_true rfl) (own := RX7) rfl ?_
  intro p e s m below meth c A X hr hlk hnm ls hl hH
  have hx := X.1.1
  have hb := X.1.2.1
  replace hl : lv_has ls 2 [(0, .ref a0), (1, .ref a1)] := hl
  obtain ⟨H, hHe⟩ : ∃ H, H = s.heap := ⟨_, rfl⟩
  obtain ⟨locs, hlo⟩ : ∃ locs : List Loc, locs = [] := ⟨_, rfl⟩
  rw [← hHe, ← hlo] at hH
  show W p l e rm_X7_leastByPhases s m [.ref a0, .ref a1].toArray below meth c s.heap [] 0 0 _ _
  rw [← hHe, ← hlo]
  refine lv_aload_n hx hb dX7_leastByPhases_0 rfl (lv_at hl 0 rfl) ?_
  refine q_getR (T := TX7) (N := 12) X hH hf iw_X7 rfl (by decide) tw_323 (fun _ h => h) dX7_leastByPhases_1 (fun v1 hf => ?_)
  refine lv_aload_n hx hb dX7_leastByPhases_4 rfl (lv_at hl 1 rfl) ?_
  obtain ⟨hb1, hb2, hf⟩ := hf
  refine q_backV0 X hH (q_runV [.ref a1] [] X hH hl (c_X3_measure l D cy G X.2.2.2.1 S v1 a1 _ _ hf) mf_X3_measure mv_X3_measure tw_439 ⟨Nat.le_of_ble_eq_true rfl, Nat.le_of_ble_eq_true rfl⟩ hb1 hb2 (T := TX3) (N := 6) rfl rfl (Nat.le_of_ble_eq_true rfl) dX7_leastByPhases_5 ⟨Nat.le_of_ble_eq_true rfl, Nat.le_of_ble_eq_true rfl⟩) (fun S2 hf H locs hH => ?_)
  refine lv_aload_n hx hb dX7_leastByPhases_8 rfl (lv_at hl 0 rfl) ?_
  refine q_getR (T := TX7) (N := 12) X hH hf iw_X7 rfl (by decide) tw_323 (fun _ h => h) dX7_leastByPhases_9 (fun v4 hf => ?_)
  refine lv_aload_n hx hb dX7_leastByPhases_12 rfl (lv_at hl 0 rfl) ?_
  refine q_getR (T := TX7) (N := 12) X hH hf iw_X7 rfl (by decide) tw_323 (fun _ h => h) dX7_leastByPhases_13 (fun v5 hf => ?_)
  obtain ⟨hb1, hb2, hf⟩ := hf
  refine q_backI0 X hH (q_runV [] [.ref v4] X hH hl (c_X3_leastPhase l D cy G X.2.2.2.1 S2 v5 _ _ hf) mf_X3_leastPhase mv_X3_leastPhase tw_480 ⟨Nat.le_of_ble_eq_true rfl, Nat.le_of_ble_eq_true rfl⟩ hb1 hb2 (T := TX3) (N := 6) rfl rfl (Nat.le_of_ble_eq_true rfl) dX7_leastByPhases_16 ⟨Nat.le_of_ble_eq_true rfl, Nat.le_of_ble_eq_true rfl⟩) (fun v7 S6 hf H locs hH => ?_)
  obtain ⟨hb1, hb2, hf⟩ := hf
  refine q_backI0 X hH (q_runV [.int v7] [] X hH hl (c_X3_cutOf l D cy G X.2.2.2.1 S6 v4 v7 _ _ hf) mf_X3_cutOf mv_X3_cutOf tw_492 ⟨Nat.le_of_ble_eq_true rfl, Nat.le_of_ble_eq_true rfl⟩ hb1 hb2 (T := TX3) (N := 6) rfl rfl (Nat.le_of_ble_eq_true rfl) dX7_leastByPhases_19 ⟨Nat.le_of_ble_eq_true rfl, Nat.le_of_ble_eq_true rfl⟩) (fun v9 S8 hf H locs hH => ?_)
  exact q_retI X hH hr hlk hf (Nat.zero_le _) (Nat.zero_le _) dX7_leastByPhases_22
-- X7_leastWith
def f_X7_leastWith (S : PS) (a0 : Nat) (a1 : Int32) (a2 : Int32) (a3 : Int32) (post : Int32 → PS → Prop) : Prop :=
  gR S a0 11 1 fun v1 => (
  gR S a0 11 0 fun v2 => (
  isO S v1 10 (
  f_X6_copyFrom S v1 v2 fun S3 => (
  gR S3 a0 11 1 fun v5 => (
  isO S3 v5 10 (
  f_X6_retie S3 v5 a1 a2 a3 fun v7 S6 => (
  gR S6 a0 11 1 fun v8 => (
  isO S6 a0 11 (
  f_X7_leastByPhases S6 a0 v8 fun v10 S9 => (
  post v10 S9))))))))))
abbrev rm_X7_leastWith : Room := { frames := 5, cells := 0, slots := 0, locals := 115 }
set_option maxHeartbeats 4000000 in
set_option maxRecDepth 100000 in
theorem c_X7_leastWith (l : Launch) (D : va_G) (cy : Nat → ClassId) (G : p_GT) (hG : p_ok G) (S : PS) (a0 : Nat) (a1 : Int32) (a2 : Int32) (a3 : Int32) (post : Int32 → PS → Prop) (sz : Nat) (hf : f_X7_leastWith S a0 a1 a2 a3 post) : p_Mi l D cy G S sz yX7_leastWith (Cond.code yX7_leastWith cX7_leastWith 4 (some .int) :: wG) rm_X7_leastWith [.ref a0, .int a1, .int a2, .int a3] 0 0 post := by
  refine q_start hG (Qc := fun A => va_Qi post (p_Post D cy A) A) mf_X7_leastWith (Nat.le_of_ble_eq_true rfl) (own := RX7) rfl ?_
  intro p e s m below meth c A X hr hlk hnm ls hl hH
  have hx := X.1.1
  have hb := X.1.2.1
  replace hl : lv_has ls 4 [(0, .ref a0), (1, .int a1), (2, .int a2), (3, .int a3)] := hl
  obtain ⟨H, hHe⟩ : ∃ H, H = s.heap := ⟨_, rfl⟩
  obtain ⟨locs, hlo⟩ : ∃ locs : List Loc, locs = [] := ⟨_, rfl⟩
  rw [← hHe, ← hlo] at hH
  show W p l e rm_X7_leastWith s m [.ref a0, .int a1, .int a2, .int a3].toArray below meth c s.heap [] 0 0 _ _
  rw [← hHe, ← hlo]
  refine lv_aload_n hx hb dX7_leastWith_0 rfl (lv_at hl 0 rfl) ?_
  refine q_getR (T := TX7) (N := 12) X hH hf iw_X7 rfl (by decide) tw_320 (fun _ h => h) dX7_leastWith_1 (fun v1 hf => ?_)
  refine lv_aload_n hx hb dX7_leastWith_4 rfl (lv_at hl 0 rfl) ?_
  refine q_getR (T := TX7) (N := 12) X hH hf iw_X7 rfl (by decide) tw_319 (fun _ h => h) dX7_leastWith_5 (fun v2 hf => ?_)
  obtain ⟨hb1, hb2, hf⟩ := hf
  refine q_backV0 X hH (q_runV [.ref v2] [] X hH hl (c_X6_copyFrom l D cy G X.2.2.2.1 S v1 v2 _ _ hf) mf_X6_copyFrom mv_X6_copyFrom tw_944 ⟨Nat.le_of_ble_eq_true rfl, Nat.le_of_ble_eq_true rfl⟩ hb1 hb2 (T := TX6) (N := 6) rfl rfl (Nat.le_of_ble_eq_true rfl) dX7_leastWith_8 ⟨Nat.le_of_ble_eq_true rfl, Nat.le_of_ble_eq_true rfl⟩) (fun S3 hf H locs hH => ?_)
  refine lv_aload_n hx hb dX7_leastWith_11 rfl (lv_at hl 0 rfl) ?_
  refine q_getR (T := TX7) (N := 12) X hH hf iw_X7 rfl (by decide) tw_320 (fun _ h => h) dX7_leastWith_12 (fun v5 hf => ?_)
  refine lv_iload_n hx hb dX7_leastWith_15 rfl (lv_at hl 1 rfl) ?_
  refine lv_iload_n hx hb dX7_leastWith_16 rfl (lv_at hl 2 rfl) ?_
  refine lv_iload_n hx hb dX7_leastWith_17 rfl (lv_at hl 3 rfl) ?_
  obtain ⟨hb1, hb2, hf⟩ := hf
  refine q_backI0 X hH (q_runV [.int a1, .int a2, .int a3] [] X hH hl (c_X6_retie l D cy G X.2.2.2.1 S3 v5 a1 a2 a3 _ _ hf) mf_X6_retie mv_X6_retie tw_1030 ⟨Nat.le_of_ble_eq_true rfl, Nat.le_of_ble_eq_true rfl⟩ hb1 hb2 (T := TX6) (N := 6) rfl rfl (Nat.le_of_ble_eq_true rfl) dX7_leastWith_18 ⟨Nat.le_of_ble_eq_true rfl, Nat.le_of_ble_eq_true rfl⟩) (fun v7 S6 hf H locs hH => ?_)
  refine lv_pop hx hb dX7_leastWith_21 rfl ?_
  refine lv_aload_n hx hb dX7_leastWith_22 rfl (lv_at hl 0 rfl) ?_
  refine lv_aload_n hx hb dX7_leastWith_23 rfl (lv_at hl 0 rfl) ?_
  refine q_getR (T := TX7) (N := 12) X hH hf iw_X7 rfl (by decide) tw_320 (fun _ h => h) dX7_leastWith_24 (fun v8 hf => ?_)
  obtain ⟨hb1, hb2, hf⟩ := hf
  refine q_backI0 X hH (q_runV [.ref v8] [] X hH hl (c_X7_leastByPhases l D cy G X.2.2.2.1 S6 a0 v8 _ _ hf) mf_X7_leastByPhases mv_X7_leastByPhases tw_435 ⟨Nat.le_of_ble_eq_true rfl, Nat.le_of_ble_eq_true rfl⟩ hb1 hb2 (T := TX7) (N := 12) rfl rfl (Nat.le_of_ble_eq_true rfl) dX7_leastWith_27 ⟨Nat.le_of_ble_eq_true rfl, Nat.le_of_ble_eq_true rfl⟩) (fun v10 S9 hf H locs hH => ?_)
  exact q_retI X hH hr hlk hf (Nat.zero_le _) (Nat.zero_le _) dX7_leastWith_30
-- X7_isLeastTold
def f_X7_isLeastTold_J104 (post : Int32 → PS → Prop) (g35 : PS → Nat → Int32 → Int32 → Prop) (S : PS) (l0 : Nat) (l1 : Int32) (l2 : Int32) : Prop :=
  g35 S l0 l1 (l2 + 1)
def f_X7_isLeastTold_L50 (post : Int32 → PS → Prop) (g35 : PS → Nat → Int32 → Int32 → Prop) : Nat → PS → Nat → Int32 → Int32 → Int32 → Prop
  | 0, _, _, _, _, _ => False
  | n + 1, S, l0, l1, l2, l3 =>
  gR S l0 11 0 fun v1 => (
  gI S v1 10 1 fun v2 => (
  if v2 ≤ l3 then
    f_X7_isLeastTold_J104 post g35 S l0 l1 l2
  else
    gR S l0 11 5 fun v4 => (
    isO S v4 4 (
    f_X0_leastApart S v4 l2 l3 fun v6 S5 => (
    gR S5 l0 11 6 fun v7 => (
    gR S5 l0 11 0 fun v8 => (
    isO S5 v7 5 (
    f_X1_mostFlow S5 v7 v8 l2 l3 fun v10 S9 => (
    if v6 = v10 then
      if l1 ≤ v6 then
        (f_X7_isLeastTold_L50 post g35 n) S9 l0 l1 l2 (l3 + 1)
      else
        nZ .boolean 0 (post 0 S9)
    else
      nZ .boolean 0 (post 0 S9))))))))))
def f_X7_isLeastTold_L35 (post : Int32 → PS → Prop) : Nat → PS → Nat → Int32 → Int32 → Prop
  | 0, _, _, _, _ => False
  | n + 1, S, l0, l1, l2 =>
  gR S l0 11 0 fun v1 => (
  gI S v1 10 1 fun v2 => (
  if v2 ≤ l2 then
    nZ .boolean 1 (post 1 S)
  else
    f_X7_isLeastTold_L50 post (f_X7_isLeastTold_L35 post n) 4096 S l0 l1 l2 (l2 + 1)))
def f_X7_isLeastTold (S : PS) (a0 : Nat) (post : Int32 → PS → Prop) : Prop :=
  gR S a0 11 0 fun v1 => (
  isO S a0 11 (
  f_X7_leastByPhases S a0 v1 fun v3 S2 => (
  gR S2 a0 11 5 fun v4 => (
  gR S2 a0 11 0 fun v5 => (
  isO S2 v4 4 (
  f_X0_measure S2 v4 v5 fun S6 => (
  gR S6 a0 11 5 fun v8 => (
  isO S6 v8 4 (
  f_X0_leastFeud S6 v8 fun v10 S9 => (
  if v3 = v10 then
    f_X7_isLeastTold_L35 post 4096 S9 a0 v3 0
  else
    nZ .boolean 0 (post 0 S9)))))))))))
abbrev rm_X7_isLeastTold : Room := { frames := 5, cells := 0, slots := 0, locals := 115 }
set_option maxHeartbeats 4000000 in
set_option maxRecDepth 100000 in
theorem c_X7_isLeastTold (l : Launch) (D : va_G) (cy : Nat → ClassId) (G : p_GT) (hG : p_ok G) (S : PS) (a0 : Nat) (post : Int32 → PS → Prop) (sz : Nat) (hf : f_X7_isLeastTold S a0 post) : p_Mi l D cy G S sz yX7_isLeastTold (Cond.code yX7_isLeastTold cX7_isLeastTold 5 (some .boolean) :: wG) rm_X7_isLeastTold [.ref a0] 0 0 post := by
  refine q_start hG (Qc := fun A => va_Qi post (p_Post D cy A) A) mf_X7_isLeastTold (Nat.le_of_ble_eq_true rfl) (own := RX7) rfl ?_
  intro p e s m below meth c A X hr hlk hnm ls hl hH
  have hx := X.1.1
  have hb := X.1.2.1
  replace hl : lv_has ls 5 [(0, .ref a0)] := hl
  obtain ⟨H, hHe⟩ : ∃ H, H = s.heap := ⟨_, rfl⟩
  obtain ⟨locs, hlo⟩ : ∃ locs : List Loc, locs = [] := ⟨_, rfl⟩
  rw [← hHe, ← hlo] at hH
  show W p l e rm_X7_isLeastTold s m [.ref a0].toArray below meth c s.heap [] 0 0 _ _
  rw [← hHe, ← hlo]
  have hL35 : ∀ (n35 : Nat) (S : PS) (l0 : Nat) (l1 : Int32) (l2 : Int32), f_X7_isLeastTold_L35 post n35 S l0 l1 l2 → ∀ (H : Heap) (locs : List Loc) (ls : Array Slot), p_H D cy S A s H locs → lv_has ls 5 [(0, .ref l0), (1, .int l1), (2, .int l2)] → W p l e rm_X7_isLeastTold s m [.ref a0].toArray below meth c H locs 0 0 (MQ below (va_Qi post (p_Post D cy A) A) [.ref a0].toArray s 0 0 A) (F0 m 35 ls []) := by
    intro n35
    induction n35 with
    | zero => intro S l0 l1 l2 hf; exact hf.elim
    | succ n35 ih35 =>
      intro S l0 l1 l2 hf H locs ls hH hl
      have hL50 : ∀ (n50 : Nat) (S : PS) (l0 : Nat) (l1 : Int32) (l2 : Int32) (l3 : Int32), f_X7_isLeastTold_L50 post (f_X7_isLeastTold_L35 post n35) n50 S l0 l1 l2 l3 → ∀ (H : Heap) (locs : List Loc) (ls : Array Slot), p_H D cy S A s H locs → lv_has ls 5 [(0, .ref l0), (1, .int l1), (2, .int l2), (3, .int l3)] → W p l e rm_X7_isLeastTold s m [.ref a0].toArray below meth c H locs 0 0 (MQ below (va_Qi post (p_Post D cy A) A) [.ref a0].toArray s 0 0 A) (F0 m 50 ls []) := by
        intro n50
        induction n50 with
        | zero => intro S l0 l1 l2 l3 hf; exact hf.elim
        | succ n50 ih50 =>
          intro S l0 l1 l2 l3 hf H locs ls hH hl
          have hJ104 : ∀ (S : PS) (l0 : Nat) (l1 : Int32) (l2 : Int32), f_X7_isLeastTold_J104 post (f_X7_isLeastTold_L35 post n35) S l0 l1 l2 → ∀ (H : Heap) (locs : List Loc) (ls : Array Slot), p_H D cy S A s H locs → lv_has ls 5 [(0, .ref l0), (1, .int l1), (2, .int l2)] → W p l e rm_X7_isLeastTold s m [.ref a0].toArray below meth c H locs 0 0 (MQ below (va_Qi post (p_Post D cy A) A) [.ref a0].toArray s 0 0 A) (F0 m 104 ls []) := by
            intro S l0 l1 l2 hf H locs ls hH hl
            refine lv_iinc (v := l2 + 1) (lv' := [(2, .int (l2 + 1)), (0, .ref l0), (1, .int l1)]) hx hb dX7_isLeastTold_104 hl (k := 2) rfl rfl (by decide) rfl (fun ls hl => ?_)
            refine lv_goto (tgt := 35) hx hb dX7_isLeastTold_107 (by decide) ?_
            exact ih35 S l0 l1 (l2 + 1) hf H locs ls hH (lv_sub hl [1, 2, 0] rfl)
          refine lv_iload_n hx hb dX7_isLeastTold_50 rfl (lv_at hl 3 rfl) ?_
          refine lv_aload_n hx hb dX7_isLeastTold_51 rfl (lv_at hl 0 rfl) ?_
          refine q_getR (T := TX7) (N := 12) X hH hf iw_X7 rfl (by decide) tw_319 (fun _ h => h) dX7_isLeastTold_52 (fun v1 hf => ?_)
          refine q_getIN (T := TX6) (N := 6) X hH hf iw_X6 rfl (by decide) (List.mem_of_getElem? (i := 0) rfl) (fun _ h => h) dX7_isLeastTold_55 (fun v2 hf => ?_)
          refine lv_icmp_ge (tgt := 104) hx hb dX7_isLeastTold_58 (by decide) (fun c3 => ?_) (fun c3 => ?_)
          · have hf := (if_pos c3).mp hf
            exact hJ104 S l0 l1 l2 hf H locs ls hH (lv_sub hl [0, 1, 2] rfl)
          · have hf := (if_neg c3).mp hf
            refine lv_aload_n hx hb dX7_isLeastTold_61 rfl (lv_at hl 0 rfl) ?_
            refine q_getR (T := TX7) (N := 12) X hH hf iw_X7 rfl (by decide) tw_324 (fun _ h => h) dX7_isLeastTold_62 (fun v4 hf => ?_)
            refine lv_iload_n hx hb dX7_isLeastTold_65 rfl (lv_at hl 2 rfl) ?_
            refine lv_iload_n hx hb dX7_isLeastTold_66 rfl (lv_at hl 3 rfl) ?_
            obtain ⟨hb1, hb2, hf⟩ := hf
            refine q_backI0 X hH (q_runV [.int l2, .int l3] [] X hH hl (c_X0_leastApart l D cy G X.2.2.2.1 S v4 l2 l3 _ _ hf) mf_X0_leastApart mv_X0_leastApart tw_506 ⟨Nat.le_of_ble_eq_true rfl, Nat.le_of_ble_eq_true rfl⟩ hb1 hb2 (T := TX0) (N := 2) rfl rfl (Nat.le_of_ble_eq_true rfl) dX7_isLeastTold_67 ⟨Nat.le_of_ble_eq_true rfl, Nat.le_of_ble_eq_true rfl⟩) (fun v6 S5 hf H locs hH => ?_)
            refine lv_istore (lv' := [(4, .int v6), (0, .ref l0), (1, .int l1), (2, .int l2), (3, .int l3)]) hx hb dX7_isLeastTold_70 hl (by decide) rfl (fun ls hl => ?_)
            refine lv_iload hx hb dX7_isLeastTold_72 (lv_at hl 0 rfl) ?_
            refine lv_aload_n hx hb dX7_isLeastTold_74 rfl (lv_at hl 1 rfl) ?_
            refine q_getR (T := TX7) (N := 12) X hH hf iw_X7 rfl (by decide) tw_325 (fun _ h => h) dX7_isLeastTold_75 (fun v7 hf => ?_)
            refine lv_aload_n hx hb dX7_isLeastTold_78 rfl (lv_at hl 1 rfl) ?_
            refine q_getR (T := TX7) (N := 12) X hH hf iw_X7 rfl (by decide) tw_319 (fun _ h => h) dX7_isLeastTold_79 (fun v8 hf => ?_)
            refine lv_iload_n hx hb dX7_isLeastTold_82 rfl (lv_at hl 3 rfl) ?_
            refine lv_iload_n hx hb dX7_isLeastTold_83 rfl (lv_at hl 4 rfl) ?_
            obtain ⟨hb1, hb2, hf⟩ := hf
            refine q_backI0 X hH (q_runV [.ref v8, .int l2, .int l3] [.int v6] X hH hl (c_X1_mostFlow l D cy G X.2.2.2.1 S5 v7 v8 l2 l3 _ _ hf) mf_X1_mostFlow mv_X1_mostFlow tw_511 ⟨Nat.le_of_ble_eq_true rfl, Nat.le_of_ble_eq_true rfl⟩ hb1 hb2 (T := TX1) (N := 3) rfl rfl (Nat.le_of_ble_eq_true rfl) dX7_isLeastTold_84 ⟨Nat.le_of_ble_eq_true rfl, Nat.le_of_ble_eq_true rfl⟩) (fun v10 S9 hf H locs hH => ?_)
            refine lv_icmp_ne (tgt := 96) hx hb dX7_isLeastTold_87 (by decide) (fun c11 => ?_) (fun c11 => ?_)
            · have hf := (if_neg c11).mp hf
              refine lv_iconst (v := 0) hx hb dX7_isLeastTold_96 (by decide) ?_
              exact q_retZ X hH hr hlk hf (Nat.zero_le _) (Nat.zero_le _) dX7_isLeastTold_97
            · have hf := (if_pos c11).mp hf
              refine lv_iload_n hx hb dX7_isLeastTold_90 rfl (lv_at hl 2 rfl) ?_
              refine lv_iload hx hb dX7_isLeastTold_91 (lv_at hl 0 rfl) ?_
              refine lv_icmp_le (tgt := 98) hx hb dX7_isLeastTold_93 (by decide) (fun c12 => ?_) (fun c12 => ?_)
              · have hf := (if_pos c12).mp hf
                refine lv_iinc (v := l3 + 1) (lv' := [(3, .int (l3 + 1)), (4, .int v6), (0, .ref l0), (1, .int l1), (2, .int l2)]) hx hb dX7_isLeastTold_98 hl (k := 4) rfl rfl (by decide) rfl (fun ls hl => ?_)
                refine lv_goto (tgt := 50) hx hb dX7_isLeastTold_101 (by decide) ?_
                exact ih50 S9 l0 l1 l2 (l3 + 1) hf H locs ls hH (lv_sub hl [2, 3, 4, 0] rfl)
              · have hf := (if_neg c12).mp hf
                refine lv_iconst (v := 0) hx hb dX7_isLeastTold_96 (by decide) ?_
                exact q_retZ X hH hr hlk hf (Nat.zero_le _) (Nat.zero_le _) dX7_isLeastTold_97
      refine lv_iload_n hx hb dX7_isLeastTold_35 rfl (lv_at hl 2 rfl) ?_
      refine lv_aload_n hx hb dX7_isLeastTold_36 rfl (lv_at hl 0 rfl) ?_
      refine q_getR (T := TX7) (N := 12) X hH hf iw_X7 rfl (by decide) tw_319 (fun _ h => h) dX7_isLeastTold_37 (fun v1 hf => ?_)
      refine q_getIN (T := TX6) (N := 6) X hH hf iw_X6 rfl (by decide) (List.mem_of_getElem? (i := 0) rfl) (fun _ h => h) dX7_isLeastTold_40 (fun v2 hf => ?_)
      refine lv_icmp_ge (tgt := 110) hx hb dX7_isLeastTold_43 (by decide) (fun c3 => ?_) (fun c3 => ?_)
      · have hf := (if_pos c3).mp hf
        refine lv_iconst (v := 1) hx hb dX7_isLeastTold_110 (by decide) ?_
        exact q_retZ X hH hr hlk hf (Nat.zero_le _) (Nat.zero_le _) dX7_isLeastTold_111
      · have hf := (if_neg c3).mp hf
        refine lv_iload_n hx hb dX7_isLeastTold_46 rfl (lv_at hl 2 rfl) ?_
        refine lv_iconst (v := 1) hx hb dX7_isLeastTold_47 (by decide) ?_
        refine lv_iadd hx hb dX7_isLeastTold_48 ?_
        refine lv_istore_n (lv' := [(3, .int (l2 + 1)), (0, .ref l0), (1, .int l1), (2, .int l2)]) hx hb dX7_isLeastTold_49 rfl hl (by decide) rfl (fun ls hl => ?_)
        exact hL50 4096 S l0 l1 l2 (l2 + 1) hf H locs ls hH (lv_sub hl [1, 2, 3, 0] rfl)
  refine lv_aload_n hx hb dX7_isLeastTold_0 rfl (lv_at hl 0 rfl) ?_
  refine lv_aload_n hx hb dX7_isLeastTold_1 rfl (lv_at hl 0 rfl) ?_
  refine q_getR (T := TX7) (N := 12) X hH hf iw_X7 rfl (by decide) tw_319 (fun _ h => h) dX7_isLeastTold_2 (fun v1 hf => ?_)
  obtain ⟨hb1, hb2, hf⟩ := hf
  refine q_backI0 X hH (q_runV [.ref v1] [] X hH hl (c_X7_leastByPhases l D cy G X.2.2.2.1 S a0 v1 _ _ hf) mf_X7_leastByPhases mv_X7_leastByPhases tw_435 ⟨Nat.le_of_ble_eq_true rfl, Nat.le_of_ble_eq_true rfl⟩ hb1 hb2 (T := TX7) (N := 12) rfl rfl (Nat.le_of_ble_eq_true rfl) dX7_isLeastTold_5 ⟨Nat.le_of_ble_eq_true rfl, Nat.le_of_ble_eq_true rfl⟩) (fun v3 S2 hf H locs hH => ?_)
  refine lv_istore_n (lv' := [(1, .int v3), (0, .ref a0)]) hx hb dX7_isLeastTold_8 rfl hl (by decide) rfl (fun ls hl => ?_)
  refine lv_aload_n hx hb dX7_isLeastTold_9 rfl (lv_at hl 1 rfl) ?_
  refine q_getR (T := TX7) (N := 12) X hH hf iw_X7 rfl (by decide) tw_324 (fun _ h => h) dX7_isLeastTold_10 (fun v4 hf => ?_)
  refine lv_aload_n hx hb dX7_isLeastTold_13 rfl (lv_at hl 1 rfl) ?_
  refine q_getR (T := TX7) (N := 12) X hH hf iw_X7 rfl (by decide) tw_319 (fun _ h => h) dX7_isLeastTold_14 (fun v5 hf => ?_)
  obtain ⟨hb1, hb2, hf⟩ := hf
  refine q_backV0 X hH (q_runV [.ref v5] [] X hH hl (c_X0_measure l D cy G X.2.2.2.1 S2 v4 v5 _ _ hf) mf_X0_measure mv_X0_measure tw_493 ⟨Nat.le_of_ble_eq_true rfl, Nat.le_of_ble_eq_true rfl⟩ hb1 hb2 (T := TX0) (N := 2) rfl rfl (Nat.le_of_ble_eq_true rfl) dX7_isLeastTold_17 ⟨Nat.le_of_ble_eq_true rfl, Nat.le_of_ble_eq_true rfl⟩) (fun S6 hf H locs hH => ?_)
  refine lv_iload_n hx hb dX7_isLeastTold_20 rfl (lv_at hl 0 rfl) ?_
  refine lv_aload_n hx hb dX7_isLeastTold_21 rfl (lv_at hl 1 rfl) ?_
  refine q_getR (T := TX7) (N := 12) X hH hf iw_X7 rfl (by decide) tw_324 (fun _ h => h) dX7_isLeastTold_22 (fun v8 hf => ?_)
  obtain ⟨hb1, hb2, hf⟩ := hf
  refine q_backI0 X hH (q_runV [] [.int v3] X hH hl (c_X0_leastFeud l D cy G X.2.2.2.1 S6 v8 _ _ hf) mf_X0_leastFeud mv_X0_leastFeud tw_500 ⟨Nat.le_of_ble_eq_true rfl, Nat.le_of_ble_eq_true rfl⟩ hb1 hb2 (T := TX0) (N := 2) rfl rfl (Nat.le_of_ble_eq_true rfl) dX7_isLeastTold_25 ⟨Nat.le_of_ble_eq_true rfl, Nat.le_of_ble_eq_true rfl⟩) (fun v10 S9 hf H locs hH => ?_)
  refine lv_icmp_eq (tgt := 33) hx hb dX7_isLeastTold_28 (by decide) (fun c11 => ?_) (fun c11 => ?_)
  · have hf := (if_pos c11).mp hf
    refine lv_iconst (v := 0) hx hb dX7_isLeastTold_33 (by decide) ?_
    refine lv_istore_n (lv' := [(2, .int 0), (1, .int v3), (0, .ref a0)]) hx hb dX7_isLeastTold_34 rfl hl (by decide) rfl (fun ls hl => ?_)
    exact hL35 4096 S9 a0 v3 0 hf H locs ls hH (lv_sub hl [2, 1, 0] rfl)
  · have hf := (if_neg c11).mp hf
    refine lv_iconst (v := 0) hx hb dX7_isLeastTold_31 (by decide) ?_
    exact q_retZ X hH hr hlk hf (Nat.zero_le _) (Nat.zero_le _) dX7_isLeastTold_32
-- X7_least
def f_X7_least (S : PS) (a0 : Nat) (bc bs : Nat) (post : Int32 → PS → Prop) (postX : String → PS → Prop) : Prop :=
  isO S a0 11 (
  f_X7_isTooSmall S a0 fun v2 S1 => (
  if v2 = 0 then
    gR S1 a0 11 0 fun v4 => (
    isO S1 a0 11 (
    f_X7_leastByPhases S1 a0 v4 fun v6 S5 => (
    post v6 S5)))
  else
    tX S1 "java/util/NoSuchElementException" bc bs postX))
abbrev rm_X7_least (mc ms : Nat) : Room := { frames := 6, cells := mc, slots := ms, locals := 115 }
set_option maxHeartbeats 4000000 in
set_option maxRecDepth 100000 in
theorem c_X7_least (l : Launch) (D : va_G) (cy : Nat → ClassId) (G : p_GT) (hG : p_ok G) (hst : l.stackTraces = false) (hGE : ∀ (A : Nat → Prop) (U : State) (H : Heap), G A U H → p_Ex A U H) (S : PS) (a0 : Nat) (mc ms : Nat) (post : Int32 → PS → Prop) (postX : String → PS → Prop) (sz : Nat) (hf : f_X7_least S a0 mc ms post postX) : p_Xi l D cy G S sz yX7_least (Cond.code yX7_least cX7_least 1 (some .int) :: wG) (rm_X7_least mc ms) [.ref a0] mc ms post postX := by
  refine q_startX hG (Qc := fun A => va_Qi post (p_Post D cy A) A) (XC := fun A => p_XC D cy A postX) mf_X7_least (Nat.le_of_ble_eq_true rfl) (own := RX7) rfl ?_
  intro p e s m below meth c A X hr hlk hnm htab ls hl hH
  have hx := X.1.1
  have hb := X.1.2.1
  replace hl : lv_has ls 1 [(0, .ref a0)] := hl
  have main : ∀ (H : Heap) (locs : List Loc) (ls : Array Slot) (cells slots bc bs : Nat), f_X7_least S a0 bc bs post postX → p_H D cy S A s H locs → lv_has ls 1 [(0, .ref a0)] → cells + bc ≤ mc ∧ slots + bs ≤ ms → W p l e (rm_X7_least mc ms) s m [.ref a0].toArray below meth c H locs cells slots (vx_MQ below (va_Qi post (p_Post D cy A) A) (p_XC D cy A postX) [.ref a0].toArray s mc ms A) (F0 m 0 ls []) := by
    intro H locs ls cells slots bc bs hf hH hl hB
    refine lv_aload_n hx hb dX7_least_0 rfl (lv_at hl 0 rfl) ?_
    obtain ⟨hb1, hb2, hf⟩ := hf
    refine q_backI0 X hH (q_runV [] [] X hH hl (c_X7_isTooSmall l D cy G X.2.2.2.1 S a0 _ _ hf) mf_X7_isTooSmall mv_X7_isTooSmall tw_427 ⟨Nat.le_of_ble_eq_true rfl, Nat.le_of_ble_eq_true rfl⟩ hb1 hb2 (T := TX7) (N := 12) rfl rfl (Nat.le_of_ble_eq_true rfl) dX7_least_1 ⟨Nat.le_trans (Nat.le_add_right _ _) hB.1, Nat.le_trans (Nat.le_add_right _ _) hB.2⟩) (fun v2 S1 hf H locs hH => ?_)
    refine lv_if_eq (tgt := 17) hx hb dX7_least_4 (by decide) (fun c3 => ?_) (fun c3 => ?_)
    · have hf := (if_pos c3).mp hf
      refine lv_aload_n hx hb dX7_least_17 rfl (lv_at hl 0 rfl) ?_
      refine lv_aload_n hx hb dX7_least_18 rfl (lv_at hl 0 rfl) ?_
      refine q_getR (T := TX7) (N := 12) X hH hf iw_X7 rfl (by decide) tw_319 (fun _ h => h) dX7_least_19 (fun v4 hf => ?_)
      obtain ⟨hb1, hb2, hf⟩ := hf
      refine q_backI0 X hH (q_runV [.ref v4] [] X hH hl (c_X7_leastByPhases l D cy G X.2.2.2.1 S1 a0 v4 _ _ hf) mf_X7_leastByPhases mv_X7_leastByPhases tw_435 ⟨Nat.le_of_ble_eq_true rfl, Nat.le_of_ble_eq_true rfl⟩ hb1 hb2 (T := TX7) (N := 12) rfl rfl (Nat.le_of_ble_eq_true rfl) dX7_least_22 ⟨Nat.le_trans (Nat.le_add_right _ _) hB.1, Nat.le_trans (Nat.le_add_right _ _) hB.2⟩) (fun v6 S5 hf H locs hH => ?_)
      exact vx_ret (q_retI X hH hr hlk hf (Nat.le_trans (Nat.le_add_right _ _) hB.1) (Nat.le_trans (Nat.le_add_right _ _) hB.2) dX7_least_25)
    · have hf := (if_neg c3).mp hf
      exact q_throwX (by decide +kernel) (by decide +kernel) (by decide +kernel) (by decide +kernel) X hH hl hB rfl rfl hst (hGE _ _ _ X.2.2.2.2) hf tw_1177 tw_114 (text := "there are fewer than two households") (List.mem_of_getElem? (i := 6) rfl) xa_NoSuchElementException xg_NoSuchElementException (by decide +kernel) (by decide +kernel) dX7_least_7 dX7_least_10 dX7_least_11 dX7_least_13 dX7_least_16 htab ⟨Nat.le_of_ble_eq_true rfl, Nat.le_of_ble_eq_true rfl⟩ (Nat.le_of_ble_eq_true rfl) hlk
  exact main s.heap [] ls 0 0 mc ms hf hH hl ⟨by omega, by omega⟩
-- X7_ifBond
def f_X7_ifBond_J22 (post : Int32 → PS → Prop) (postX : String → PS → Prop) (S : PS) (bc bs : Nat)  : Prop :=
  tX S "java/lang/IndexOutOfBoundsException" bc bs postX
def f_X7_ifBond_J57 (post : Int32 → PS → Prop) (postX : String → PS → Prop) (S : PS) (bc bs : Nat)  : Prop :=
  tX S "java/lang/IllegalArgumentException" bc bs postX
def f_X7_ifBond (S : PS) (a0 : Nat) (a1 : Int32) (a2 : Int32) (a3 : Int32) (bc bs : Nat) (post : Int32 → PS → Prop) (postX : String → PS → Prop) : Prop :=
  gR S a0 11 0 fun v1 => (
  isO S v1 10 (
  f_X6_has S v1 a1 fun v3 S2 => (
  if v3 = 0 then
    f_X7_ifBond_J22 post postX S2 bc bs
  else
    gR S2 a0 11 0 fun v5 => (
    isO S2 v5 10 (
    f_X6_has S2 v5 a2 fun v7 S6 => (
    if v7 = 0 then
      f_X7_ifBond_J22 post postX S6 bc bs
    else
      if a1 = a2 then
        tX S6 "java/lang/IllegalArgumentException" bc bs postX
      else
        if a3 < 0 then
          f_X7_ifBond_J57 post postX S6 bc bs
        else
          if a3 ≤ 99 then
            isO S6 a0 11 (
            f_X7_leastWith S6 a0 a1 a2 a3 fun v13 S12 => (
            post v13 S12))
          else
            f_X7_ifBond_J57 post postX S6 bc bs))))))
abbrev rm_X7_ifBond (mc ms : Nat) : Room := { frames := 6, cells := mc, slots := ms, locals := 138 }
set_option maxHeartbeats 4000000 in
set_option maxRecDepth 100000 in
theorem c_X7_ifBond (l : Launch) (D : va_G) (cy : Nat → ClassId) (G : p_GT) (hG : p_ok G) (hst : l.stackTraces = false) (hGE : ∀ (A : Nat → Prop) (U : State) (H : Heap), G A U H → p_Ex A U H) (S : PS) (a0 : Nat) (a1 : Int32) (a2 : Int32) (a3 : Int32) (mc ms : Nat) (post : Int32 → PS → Prop) (postX : String → PS → Prop) (sz : Nat) (hf : f_X7_ifBond S a0 a1 a2 a3 mc ms post postX) : p_Xi l D cy G S sz yX7_ifBond (Cond.code yX7_ifBond cX7_ifBond 4 (some .int) :: wG) (rm_X7_ifBond mc ms) [.ref a0, .int a1, .int a2, .int a3] mc ms post postX := by
  refine q_startX hG (Qc := fun A => va_Qi post (p_Post D cy A) A) (XC := fun A => p_XC D cy A postX) mf_X7_ifBond (Nat.le_of_ble_eq_true rfl) (own := RX7) rfl ?_
  intro p e s m below meth c A X hr hlk hnm htab ls hl hH
  have hx := X.1.1
  have hb := X.1.2.1
  replace hl : lv_has ls 4 [(0, .ref a0), (1, .int a1), (2, .int a2), (3, .int a3)] := hl
  have main : ∀ (H : Heap) (locs : List Loc) (ls : Array Slot) (cells slots bc bs : Nat), f_X7_ifBond S a0 a1 a2 a3 bc bs post postX → p_H D cy S A s H locs → lv_has ls 4 [(0, .ref a0), (1, .int a1), (2, .int a2), (3, .int a3)] → cells + bc ≤ mc ∧ slots + bs ≤ ms → W p l e (rm_X7_ifBond mc ms) s m [.ref a0, .int a1, .int a2, .int a3].toArray below meth c H locs cells slots (vx_MQ below (va_Qi post (p_Post D cy A) A) (p_XC D cy A postX) [.ref a0, .int a1, .int a2, .int a3].toArray s mc ms A) (F0 m 0 ls []) := by
    intro H locs ls cells slots bc bs hf hH hl hB
    have hJ22 : ∀ (S : PS) (bc bs : Nat), f_X7_ifBond_J22 post postX S bc bs → ∀ (H : Heap) (locs : List Loc) (ls : Array Slot) (cells slots : Nat), p_H D cy S A s H locs → lv_has ls 4 [] → cells + bc ≤ mc ∧ slots + bs ≤ ms → W p l e (rm_X7_ifBond mc ms) s m [.ref a0, .int a1, .int a2, .int a3].toArray below meth c H locs cells slots (vx_MQ below (va_Qi post (p_Post D cy A) A) (p_XC D cy A postX) [.ref a0, .int a1, .int a2, .int a3].toArray s mc ms A) (F0 m 22 ls []) := by
      intro S bc bs hf H locs ls cells slots hH hl hB
      exact q_throw X hH hl hB rfl rfl hst (hGE _ _ _ X.2.2.2.2) hf tw_1106 tw_111 (text := "there is no such household") (List.mem_of_getElem? (i := 1) rfl) xa_IndexOutOfBoundsException xg_IndexOutOfBoundsException (by decide +kernel) (by decide +kernel) dX7_ifBond_22 dX7_ifBond_25 dX7_ifBond_26 dX7_ifBond_28 dX7_ifBond_31 htab ⟨Nat.le_of_ble_eq_true rfl, Nat.le_of_ble_eq_true rfl⟩ (Nat.le_of_ble_eq_true rfl) hlk
    have hJ57 : ∀ (S : PS) (bc bs : Nat), f_X7_ifBond_J57 post postX S bc bs → ∀ (H : Heap) (locs : List Loc) (ls : Array Slot) (cells slots : Nat), p_H D cy S A s H locs → lv_has ls 4 [] → cells + bc ≤ mc ∧ slots + bs ≤ ms → W p l e (rm_X7_ifBond mc ms) s m [.ref a0, .int a1, .int a2, .int a3].toArray below meth c H locs cells slots (vx_MQ below (va_Qi post (p_Post D cy A) A) (p_XC D cy A postX) [.ref a0, .int a1, .int a2, .int a3].toArray s mc ms A) (F0 m 57 ls []) := by
      intro S bc bs hf H locs ls cells slots hH hl hB
      exact q_throw X hH hl hB rfl rfl hst (hGE _ _ _ X.2.2.2.2) hf tw_1134 tw_113 (text := "the weight is out of range") (List.mem_of_getElem? (i := 14) rfl) xa_IllegalArgumentException xg_IllegalArgumentException (by decide +kernel) (by decide +kernel) dX7_ifBond_57 dX7_ifBond_60 dX7_ifBond_61 dX7_ifBond_63 dX7_ifBond_66 htab ⟨Nat.le_of_ble_eq_true rfl, Nat.le_of_ble_eq_true rfl⟩ (Nat.le_of_ble_eq_true rfl) hlk
    refine lv_aload_n hx hb dX7_ifBond_0 rfl (lv_at hl 0 rfl) ?_
    refine q_getR (T := TX7) (N := 12) X hH hf iw_X7 rfl (by decide) tw_319 (fun _ h => h) dX7_ifBond_1 (fun v1 hf => ?_)
    refine lv_iload_n hx hb dX7_ifBond_4 rfl (lv_at hl 1 rfl) ?_
    obtain ⟨hb1, hb2, hf⟩ := hf
    refine q_backI0 X hH (q_runV [.int a1] [] X hH hl (c_X6_has l D cy G X.2.2.2.1 S v1 a1 _ _ hf) mf_X6_has mv_X6_has tw_973 ⟨Nat.le_of_ble_eq_true rfl, Nat.le_of_ble_eq_true rfl⟩ hb1 hb2 (T := TX6) (N := 6) rfl rfl (Nat.le_of_ble_eq_true rfl) dX7_ifBond_5 ⟨Nat.le_trans (Nat.le_add_right _ _) hB.1, Nat.le_trans (Nat.le_add_right _ _) hB.2⟩) (fun v3 S2 hf H locs hH => ?_)
    refine lv_if_eq (tgt := 22) hx hb dX7_ifBond_8 (by decide) (fun c4 => ?_) (fun c4 => ?_)
    · have hf := (if_pos c4).mp hf
      exact hJ22 S2 bc bs hf H locs ls cells slots hH (lv_sub hl [] rfl) hB
    · have hf := (if_neg c4).mp hf
      refine lv_aload_n hx hb dX7_ifBond_11 rfl (lv_at hl 0 rfl) ?_
      refine q_getR (T := TX7) (N := 12) X hH hf iw_X7 rfl (by decide) tw_319 (fun _ h => h) dX7_ifBond_12 (fun v5 hf => ?_)
      refine lv_iload_n hx hb dX7_ifBond_15 rfl (lv_at hl 2 rfl) ?_
      obtain ⟨hb1, hb2, hf⟩ := hf
      refine q_backI0 X hH (q_runV [.int a2] [] X hH hl (c_X6_has l D cy G X.2.2.2.1 S2 v5 a2 _ _ hf) mf_X6_has mv_X6_has tw_973 ⟨Nat.le_of_ble_eq_true rfl, Nat.le_of_ble_eq_true rfl⟩ hb1 hb2 (T := TX6) (N := 6) rfl rfl (Nat.le_of_ble_eq_true rfl) dX7_ifBond_16 ⟨Nat.le_trans (Nat.le_add_right _ _) hB.1, Nat.le_trans (Nat.le_add_right _ _) hB.2⟩) (fun v7 S6 hf H locs hH => ?_)
      refine lv_if_ne (tgt := 32) hx hb dX7_ifBond_19 (by decide) (fun c8 => ?_) (fun c8 => ?_)
      · have hf := (if_neg c8).mp hf
        refine lv_iload_n hx hb dX7_ifBond_32 rfl (lv_at hl 1 rfl) ?_
        refine lv_iload_n hx hb dX7_ifBond_33 rfl (lv_at hl 2 rfl) ?_
        refine lv_icmp_ne (tgt := 47) hx hb dX7_ifBond_34 (by decide) (fun c9 => ?_) (fun c9 => ?_)
        · have hf := (if_neg c9).mp hf
          refine lv_iload_n hx hb dX7_ifBond_47 rfl (lv_at hl 3 rfl) ?_
          refine lv_if_lt (tgt := 57) hx hb dX7_ifBond_48 (by decide) (fun c10 => ?_) (fun c10 => ?_)
          · have hf := (if_pos c10).mp hf
            exact hJ57 S6 bc bs hf H locs ls cells slots hH (lv_sub hl [] rfl) hB
          · have hf := (if_neg c10).mp hf
            refine lv_iload_n hx hb dX7_ifBond_51 rfl (lv_at hl 3 rfl) ?_
            refine lv_bipush (v := 99) hx hb dX7_ifBond_52 (by decide) ?_
            refine lv_icmp_le (tgt := 67) hx hb dX7_ifBond_54 (by decide) (fun c11 => ?_) (fun c11 => ?_)
            · have hf := (if_pos c11).mp hf
              refine lv_aload_n hx hb dX7_ifBond_67 rfl (lv_at hl 0 rfl) ?_
              refine lv_iload_n hx hb dX7_ifBond_68 rfl (lv_at hl 1 rfl) ?_
              refine lv_iload_n hx hb dX7_ifBond_69 rfl (lv_at hl 2 rfl) ?_
              refine lv_iload_n hx hb dX7_ifBond_70 rfl (lv_at hl 3 rfl) ?_
              obtain ⟨hb1, hb2, hf⟩ := hf
              refine q_backI0 X hH (q_runV [.int a1, .int a2, .int a3] [] X hH hl (c_X7_leastWith l D cy G X.2.2.2.1 S6 a0 a1 a2 a3 _ _ hf) mf_X7_leastWith mv_X7_leastWith tw_1277 ⟨Nat.le_of_ble_eq_true rfl, Nat.le_of_ble_eq_true rfl⟩ hb1 hb2 (T := TX7) (N := 12) rfl rfl (Nat.le_of_ble_eq_true rfl) dX7_ifBond_71 ⟨Nat.le_trans (Nat.le_add_right _ _) hB.1, Nat.le_trans (Nat.le_add_right _ _) hB.2⟩) (fun v13 S12 hf H locs hH => ?_)
              exact vx_ret (q_retI X hH hr hlk hf (Nat.le_trans (Nat.le_add_right _ _) hB.1) (Nat.le_trans (Nat.le_add_right _ _) hB.2) dX7_ifBond_74)
            · have hf := (if_neg c11).mp hf
              exact hJ57 S6 bc bs hf H locs ls cells slots hH (lv_sub hl [] rfl) hB
        · have hf := (if_pos c9).mp hf
          exact q_throw X hH hl hB rfl rfl hst (hGE _ _ _ X.2.2.2.2) hf tw_1134 tw_113 (text := "both are one household") (List.mem_of_getElem? (i := 12) rfl) xa_IllegalArgumentException xg_IllegalArgumentException (by decide +kernel) (by decide +kernel) dX7_ifBond_37 dX7_ifBond_40 dX7_ifBond_41 dX7_ifBond_43 dX7_ifBond_46 htab ⟨Nat.le_of_ble_eq_true rfl, Nat.le_of_ble_eq_true rfl⟩ (Nat.le_of_ble_eq_true rfl) hlk
      · have hf := (if_pos c8).mp hf
        exact hJ22 S6 bc bs hf H locs ls cells slots hH (lv_sub hl [] rfl) hB
  exact main s.heap [] ls 0 0 mc ms hf hH hl ⟨by omega, by omega⟩
-- X7_isCritical
def f_X7_isCritical_J22 (post : Int32 → PS → Prop) (postX : String → PS → Prop) (S : PS) (bc bs : Nat)  : Prop :=
  tX S "java/lang/IndexOutOfBoundsException" bc bs postX
def f_X7_isCritical_J49 (post : Int32 → PS → Prop) (postX : String → PS → Prop) (S : PS) (bc bs : Nat)  : Prop :=
  tX S "java/lang/IllegalStateException" bc bs postX
def f_X7_isCritical (S : PS) (a0 : Nat) (a1 : Int32) (a2 : Int32) (bc bs : Nat) (post : Int32 → PS → Prop) (postX : String → PS → Prop) : Prop :=
  gR S a0 11 0 fun v1 => (
  isO S v1 10 (
  f_X6_has S v1 a1 fun v3 S2 => (
  if v3 = 0 then
    f_X7_isCritical_J22 post postX S2 bc bs
  else
    gR S2 a0 11 0 fun v5 => (
    isO S2 v5 10 (
    f_X6_has S2 v5 a2 fun v7 S6 => (
    if v7 = 0 then
      f_X7_isCritical_J22 post postX S6 bc bs
    else
      if a1 = a2 then
        f_X7_isCritical_J49 post postX S6 bc bs
      else
        gR S6 a0 11 0 fun v10 => (
        isO S6 v10 10 (
        f_X6_tie S6 v10 a1 a2 fun v12 S11 => (
        if v12 = 0 then
          f_X7_isCritical_J49 post postX S11 bc bs
        else
          isO S11 a0 11 (
          f_X7_leastWith S11 a0 a1 a2 0 fun v15 S14 => (
          gR S14 a0 11 0 fun v16 => (
          isO S14 a0 11 (
          f_X7_leastByPhases S14 a0 v16 fun v18 S17 => (
          if v18 ≤ v15 then
            nZ .boolean 0 (post 0 S17)
          else
            nZ .boolean 1 (post 1 S17)))))))))))))))
abbrev rm_X7_isCritical (mc ms : Nat) : Room := { frames := 6, cells := mc, slots := ms, locals := 138 }
set_option maxHeartbeats 4000000 in
set_option maxRecDepth 100000 in
theorem c_X7_isCritical (l : Launch) (D : va_G) (cy : Nat → ClassId) (G : p_GT) (hG : p_ok G) (hst : l.stackTraces = false) (hGE : ∀ (A : Nat → Prop) (U : State) (H : Heap), G A U H → p_Ex A U H) (S : PS) (a0 : Nat) (a1 : Int32) (a2 : Int32) (mc ms : Nat) (post : Int32 → PS → Prop) (postX : String → PS → Prop) (sz : Nat) (hf : f_X7_isCritical S a0 a1 a2 mc ms post postX) : p_Xi l D cy G S sz yX7_isCritical (Cond.code yX7_isCritical cX7_isCritical 3 (some .boolean) :: wG) (rm_X7_isCritical mc ms) [.ref a0, .int a1, .int a2] mc ms post postX := by
  refine q_startX hG (Qc := fun A => va_Qi post (p_Post D cy A) A) (XC := fun A => p_XC D cy A postX) mf_X7_isCritical (Nat.le_of_ble_eq_true rfl) (own := RX7) rfl ?_
  intro p e s m below meth c A X hr hlk hnm htab ls hl hH
  have hx := X.1.1
  have hb := X.1.2.1
  replace hl : lv_has ls 3 [(0, .ref a0), (1, .int a1), (2, .int a2)] := hl
  have main : ∀ (H : Heap) (locs : List Loc) (ls : Array Slot) (cells slots bc bs : Nat), f_X7_isCritical S a0 a1 a2 bc bs post postX → p_H D cy S A s H locs → lv_has ls 3 [(0, .ref a0), (1, .int a1), (2, .int a2)] → cells + bc ≤ mc ∧ slots + bs ≤ ms → W p l e (rm_X7_isCritical mc ms) s m [.ref a0, .int a1, .int a2].toArray below meth c H locs cells slots (vx_MQ below (va_Qi post (p_Post D cy A) A) (p_XC D cy A postX) [.ref a0, .int a1, .int a2].toArray s mc ms A) (F0 m 0 ls []) := by
    intro H locs ls cells slots bc bs hf hH hl hB
    have hJ22 : ∀ (S : PS) (bc bs : Nat), f_X7_isCritical_J22 post postX S bc bs → ∀ (H : Heap) (locs : List Loc) (ls : Array Slot) (cells slots : Nat), p_H D cy S A s H locs → lv_has ls 3 [] → cells + bc ≤ mc ∧ slots + bs ≤ ms → W p l e (rm_X7_isCritical mc ms) s m [.ref a0, .int a1, .int a2].toArray below meth c H locs cells slots (vx_MQ below (va_Qi post (p_Post D cy A) A) (p_XC D cy A postX) [.ref a0, .int a1, .int a2].toArray s mc ms A) (F0 m 22 ls []) := by
      intro S bc bs hf H locs ls cells slots hH hl hB
      exact q_throw X hH hl hB rfl rfl hst (hGE _ _ _ X.2.2.2.2) hf tw_1106 tw_111 (text := "there is no such household") (List.mem_of_getElem? (i := 1) rfl) xa_IndexOutOfBoundsException xg_IndexOutOfBoundsException (by decide +kernel) (by decide +kernel) dX7_isCritical_22 dX7_isCritical_25 dX7_isCritical_26 dX7_isCritical_28 dX7_isCritical_31 htab ⟨Nat.le_of_ble_eq_true rfl, Nat.le_of_ble_eq_true rfl⟩ (Nat.le_of_ble_eq_true rfl) hlk
    have hJ49 : ∀ (S : PS) (bc bs : Nat), f_X7_isCritical_J49 post postX S bc bs → ∀ (H : Heap) (locs : List Loc) (ls : Array Slot) (cells slots : Nat), p_H D cy S A s H locs → lv_has ls 3 [] → cells + bc ≤ mc ∧ slots + bs ≤ ms → W p l e (rm_X7_isCritical mc ms) s m [.ref a0, .int a1, .int a2].toArray below meth c H locs cells slots (vx_MQ below (va_Qi post (p_Post D cy A) A) (p_XC D cy A postX) [.ref a0, .int a1, .int a2].toArray s mc ms A) (F0 m 49 ls []) := by
      intro S bc bs hf H locs ls cells slots hH hl hB
      exact q_throw X hH hl hB rfl rfl hst (hGE _ _ _ X.2.2.2.2) hf tw_1289 tw_115 (text := "there is no bond between them") (List.mem_of_getElem? (i := 15) rfl) xa_IllegalStateException xg_IllegalStateException (by decide +kernel) (by decide +kernel) dX7_isCritical_49 dX7_isCritical_52 dX7_isCritical_53 dX7_isCritical_55 dX7_isCritical_58 htab ⟨Nat.le_of_ble_eq_true rfl, Nat.le_of_ble_eq_true rfl⟩ (Nat.le_of_ble_eq_true rfl) hlk
    refine lv_aload_n hx hb dX7_isCritical_0 rfl (lv_at hl 0 rfl) ?_
    refine q_getR (T := TX7) (N := 12) X hH hf iw_X7 rfl (by decide) tw_319 (fun _ h => h) dX7_isCritical_1 (fun v1 hf => ?_)
    refine lv_iload_n hx hb dX7_isCritical_4 rfl (lv_at hl 1 rfl) ?_
    obtain ⟨hb1, hb2, hf⟩ := hf
    refine q_backI0 X hH (q_runV [.int a1] [] X hH hl (c_X6_has l D cy G X.2.2.2.1 S v1 a1 _ _ hf) mf_X6_has mv_X6_has tw_973 ⟨Nat.le_of_ble_eq_true rfl, Nat.le_of_ble_eq_true rfl⟩ hb1 hb2 (T := TX6) (N := 6) rfl rfl (Nat.le_of_ble_eq_true rfl) dX7_isCritical_5 ⟨Nat.le_trans (Nat.le_add_right _ _) hB.1, Nat.le_trans (Nat.le_add_right _ _) hB.2⟩) (fun v3 S2 hf H locs hH => ?_)
    refine lv_if_eq (tgt := 22) hx hb dX7_isCritical_8 (by decide) (fun c4 => ?_) (fun c4 => ?_)
    · have hf := (if_pos c4).mp hf
      exact hJ22 S2 bc bs hf H locs ls cells slots hH (lv_sub hl [] rfl) hB
    · have hf := (if_neg c4).mp hf
      refine lv_aload_n hx hb dX7_isCritical_11 rfl (lv_at hl 0 rfl) ?_
      refine q_getR (T := TX7) (N := 12) X hH hf iw_X7 rfl (by decide) tw_319 (fun _ h => h) dX7_isCritical_12 (fun v5 hf => ?_)
      refine lv_iload_n hx hb dX7_isCritical_15 rfl (lv_at hl 2 rfl) ?_
      obtain ⟨hb1, hb2, hf⟩ := hf
      refine q_backI0 X hH (q_runV [.int a2] [] X hH hl (c_X6_has l D cy G X.2.2.2.1 S2 v5 a2 _ _ hf) mf_X6_has mv_X6_has tw_973 ⟨Nat.le_of_ble_eq_true rfl, Nat.le_of_ble_eq_true rfl⟩ hb1 hb2 (T := TX6) (N := 6) rfl rfl (Nat.le_of_ble_eq_true rfl) dX7_isCritical_16 ⟨Nat.le_trans (Nat.le_add_right _ _) hB.1, Nat.le_trans (Nat.le_add_right _ _) hB.2⟩) (fun v7 S6 hf H locs hH => ?_)
      refine lv_if_ne (tgt := 32) hx hb dX7_isCritical_19 (by decide) (fun c8 => ?_) (fun c8 => ?_)
      · have hf := (if_neg c8).mp hf
        refine lv_iload_n hx hb dX7_isCritical_32 rfl (lv_at hl 1 rfl) ?_
        refine lv_iload_n hx hb dX7_isCritical_33 rfl (lv_at hl 2 rfl) ?_
        refine lv_icmp_eq (tgt := 49) hx hb dX7_isCritical_34 (by decide) (fun c9 => ?_) (fun c9 => ?_)
        · have hf := (if_pos c9).mp hf
          exact hJ49 S6 bc bs hf H locs ls cells slots hH (lv_sub hl [] rfl) hB
        · have hf := (if_neg c9).mp hf
          refine lv_aload_n hx hb dX7_isCritical_37 rfl (lv_at hl 0 rfl) ?_
          refine q_getR (T := TX7) (N := 12) X hH hf iw_X7 rfl (by decide) tw_319 (fun _ h => h) dX7_isCritical_38 (fun v10 hf => ?_)
          refine lv_iload_n hx hb dX7_isCritical_41 rfl (lv_at hl 1 rfl) ?_
          refine lv_iload_n hx hb dX7_isCritical_42 rfl (lv_at hl 2 rfl) ?_
          obtain ⟨hb1, hb2, hf⟩ := hf
          refine q_backI0 X hH (q_runV [.int a1, .int a2] [] X hH hl (c_X6_tie l D cy G X.2.2.2.1 S6 v10 a1 a2 _ _ hf) mf_X6_tie mv_X6_tie tw_902 ⟨Nat.le_of_ble_eq_true rfl, Nat.le_of_ble_eq_true rfl⟩ hb1 hb2 (T := TX6) (N := 6) rfl rfl (Nat.le_of_ble_eq_true rfl) dX7_isCritical_43 ⟨Nat.le_trans (Nat.le_add_right _ _) hB.1, Nat.le_trans (Nat.le_add_right _ _) hB.2⟩) (fun v12 S11 hf H locs hH => ?_)
          refine lv_if_ne (tgt := 59) hx hb dX7_isCritical_46 (by decide) (fun c13 => ?_) (fun c13 => ?_)
          · have hf := (if_neg c13).mp hf
            refine lv_aload_n hx hb dX7_isCritical_59 rfl (lv_at hl 0 rfl) ?_
            refine lv_iload_n hx hb dX7_isCritical_60 rfl (lv_at hl 1 rfl) ?_
            refine lv_iload_n hx hb dX7_isCritical_61 rfl (lv_at hl 2 rfl) ?_
            refine lv_iconst (v := 0) hx hb dX7_isCritical_62 (by decide) ?_
            obtain ⟨hb1, hb2, hf⟩ := hf
            refine q_backI0 X hH (q_runV [.int a1, .int a2, .int 0] [] X hH hl (c_X7_leastWith l D cy G X.2.2.2.1 S11 a0 a1 a2 0 _ _ hf) mf_X7_leastWith mv_X7_leastWith tw_1277 ⟨Nat.le_of_ble_eq_true rfl, Nat.le_of_ble_eq_true rfl⟩ hb1 hb2 (T := TX7) (N := 12) rfl rfl (Nat.le_of_ble_eq_true rfl) dX7_isCritical_63 ⟨Nat.le_trans (Nat.le_add_right _ _) hB.1, Nat.le_trans (Nat.le_add_right _ _) hB.2⟩) (fun v15 S14 hf H locs hH => ?_)
            refine lv_aload_n hx hb dX7_isCritical_66 rfl (lv_at hl 0 rfl) ?_
            refine lv_aload_n hx hb dX7_isCritical_67 rfl (lv_at hl 0 rfl) ?_
            refine q_getR (T := TX7) (N := 12) X hH hf iw_X7 rfl (by decide) tw_319 (fun _ h => h) dX7_isCritical_68 (fun v16 hf => ?_)
            obtain ⟨hb1, hb2, hf⟩ := hf
            refine q_backI0 X hH (q_runV [.ref v16] [.int v15] X hH hl (c_X7_leastByPhases l D cy G X.2.2.2.1 S14 a0 v16 _ _ hf) mf_X7_leastByPhases mv_X7_leastByPhases tw_435 ⟨Nat.le_of_ble_eq_true rfl, Nat.le_of_ble_eq_true rfl⟩ hb1 hb2 (T := TX7) (N := 12) rfl rfl (Nat.le_of_ble_eq_true rfl) dX7_isCritical_71 ⟨Nat.le_trans (Nat.le_add_right _ _) hB.1, Nat.le_trans (Nat.le_add_right _ _) hB.2⟩) (fun v18 S17 hf H locs hH => ?_)
            refine lv_icmp_ge (tgt := 81) hx hb dX7_isCritical_74 (by decide) (fun c19 => ?_) (fun c19 => ?_)
            · have hf := (if_pos c19).mp hf
              refine lv_iconst (v := 0) hx hb dX7_isCritical_81 (by decide) ?_
              exact vx_ret (q_retZ X hH hr hlk hf (Nat.le_trans (Nat.le_add_right _ _) hB.1) (Nat.le_trans (Nat.le_add_right _ _) hB.2) dX7_isCritical_82)
            · have hf := (if_neg c19).mp hf
              refine lv_iconst (v := 1) hx hb dX7_isCritical_77 (by decide) ?_
              refine lv_goto (tgt := 82) hx hb dX7_isCritical_78 (by decide) ?_
              exact vx_ret (q_retZ X hH hr hlk hf (Nat.le_trans (Nat.le_add_right _ _) hB.1) (Nat.le_trans (Nat.le_add_right _ _) hB.2) dX7_isCritical_82)
          · have hf := (if_pos c13).mp hf
            exact hJ49 S11 bc bs hf H locs ls cells slots hH (lv_sub hl [] rfl) hB
      · have hf := (if_pos c8).mp hf
        exact hJ22 S6 bc bs hf H locs ls cells slots hH (lv_sub hl [] rfl) hB
  exact main s.heap [] ls 0 0 mc ms hf hH hl ⟨by omega, by omega⟩
-- X7_isTold
def f_X7_isTold (S : PS) (a0 : Nat) (post : Int32 → PS → Prop) : Prop :=
  gR S a0 11 0 fun v1 => (
  isO S v1 10 (
  f_X6_feudByBonds S v1 fun v3 S2 => (
  gR S2 a0 11 0 fun v4 => (
  isO S2 v4 10 (
  f_X6_feudByHalves S2 v4 fun v6 S5 => (
  if v3 = v6 then
    isO S5 a0 11 (
    f_X7_isTooSmall S5 a0 fun v9 S8 => (
    if v9 = 0 then
      isO S8 a0 11 (
      f_X7_isLeastTold S8 a0 fun v12 S11 => (
      if v12 = 0 then
        nZ .boolean 0 (post 0 S11)
      else
        nZ .boolean 1 (post 1 S11)))
    else
      nZ .boolean 1 (post 1 S8)))
  else
    nZ .boolean 0 (post 0 S5)))))))
abbrev rm_X7_isTold : Room := { frames := 6, cells := 0, slots := 0, locals := 139 }
set_option maxHeartbeats 4000000 in
set_option maxRecDepth 100000 in
theorem c_X7_isTold (l : Launch) (D : va_G) (cy : Nat → ClassId) (G : p_GT) (hG : p_ok G) (S : PS) (a0 : Nat) (post : Int32 → PS → Prop) (sz : Nat) (hf : f_X7_isTold S a0 post) : p_Mi l D cy G S sz yX7_isTold (Cond.code yX7_isTold cX7_isTold 1 (some .boolean) :: wG) rm_X7_isTold [.ref a0] 0 0 post := by
  refine q_start hG (Qc := fun A => va_Qi post (p_Post D cy A) A) mf_X7_isTold (Nat.le_of_ble_eq_true rfl) (own := RX7) rfl ?_
  intro p e s m below meth c A X hr hlk hnm ls hl hH
  have hx := X.1.1
  have hb := X.1.2.1
  replace hl : lv_has ls 1 [(0, .ref a0)] := hl
  obtain ⟨H, hHe⟩ : ∃ H, H = s.heap := ⟨_, rfl⟩
  obtain ⟨locs, hlo⟩ : ∃ locs : List Loc, locs = [] := ⟨_, rfl⟩
  rw [← hHe, ← hlo] at hH
  show W p l e rm_X7_isTold s m [.ref a0].toArray below meth c s.heap [] 0 0 _ _
  rw [← hHe, ← hlo]
  refine lv_aload_n hx hb dX7_isTold_0 rfl (lv_at hl 0 rfl) ?_
  refine q_getR (T := TX7) (N := 12) X hH hf iw_X7 rfl (by decide) tw_319 (fun _ h => h) dX7_isTold_1 (fun v1 hf => ?_)
  obtain ⟨hb1, hb2, hf⟩ := hf
  refine q_backI0 X hH (q_runV [] [] X hH hl (c_X6_feudByBonds l D cy G X.2.2.2.1 S v1 _ _ hf) mf_X6_feudByBonds mv_X6_feudByBonds tw_360 ⟨Nat.le_of_ble_eq_true rfl, Nat.le_of_ble_eq_true rfl⟩ hb1 hb2 (T := TX6) (N := 6) rfl rfl (Nat.le_of_ble_eq_true rfl) dX7_isTold_4 ⟨Nat.le_of_ble_eq_true rfl, Nat.le_of_ble_eq_true rfl⟩) (fun v3 S2 hf H locs hH => ?_)
  refine lv_aload_n hx hb dX7_isTold_7 rfl (lv_at hl 0 rfl) ?_
  refine q_getR (T := TX7) (N := 12) X hH hf iw_X7 rfl (by decide) tw_319 (fun _ h => h) dX7_isTold_8 (fun v4 hf => ?_)
  obtain ⟨hb1, hb2, hf⟩ := hf
  refine q_backI0 X hH (q_runV [] [.int v3] X hH hl (c_X6_feudByHalves l D cy G X.2.2.2.1 S2 v4 _ _ hf) mf_X6_feudByHalves mv_X6_feudByHalves tw_383 ⟨Nat.le_of_ble_eq_true rfl, Nat.le_of_ble_eq_true rfl⟩ hb1 hb2 (T := TX6) (N := 6) rfl rfl (Nat.le_of_ble_eq_true rfl) dX7_isTold_11 ⟨Nat.le_of_ble_eq_true rfl, Nat.le_of_ble_eq_true rfl⟩) (fun v6 S5 hf H locs hH => ?_)
  refine lv_icmp_eq (tgt := 19) hx hb dX7_isTold_14 (by decide) (fun c7 => ?_) (fun c7 => ?_)
  · have hf := (if_pos c7).mp hf
    refine lv_aload_n hx hb dX7_isTold_19 rfl (lv_at hl 0 rfl) ?_
    obtain ⟨hb1, hb2, hf⟩ := hf
    refine q_backI0 X hH (q_runV [] [] X hH hl (c_X7_isTooSmall l D cy G X.2.2.2.1 S5 a0 _ _ hf) mf_X7_isTooSmall mv_X7_isTooSmall tw_427 ⟨Nat.le_of_ble_eq_true rfl, Nat.le_of_ble_eq_true rfl⟩ hb1 hb2 (T := TX7) (N := 12) rfl rfl (Nat.le_of_ble_eq_true rfl) dX7_isTold_20 ⟨Nat.le_of_ble_eq_true rfl, Nat.le_of_ble_eq_true rfl⟩) (fun v9 S8 hf H locs hH => ?_)
    refine lv_if_ne (tgt := 33) hx hb dX7_isTold_23 (by decide) (fun c10 => ?_) (fun c10 => ?_)
    · have hf := (if_neg c10).mp hf
      refine lv_iconst (v := 1) hx hb dX7_isTold_33 (by decide) ?_
      refine lv_goto (tgt := 38) hx hb dX7_isTold_34 (by decide) ?_
      exact q_retZ X hH hr hlk hf (Nat.zero_le _) (Nat.zero_le _) dX7_isTold_38
    · have hf := (if_pos c10).mp hf
      refine lv_aload_n hx hb dX7_isTold_26 rfl (lv_at hl 0 rfl) ?_
      obtain ⟨hb1, hb2, hf⟩ := hf
      refine q_backI0 X hH (q_runV [] [] X hH hl (c_X7_isLeastTold l D cy G X.2.2.2.1 S8 a0 _ _ hf) mf_X7_isLeastTold mv_X7_isLeastTold tw_431 ⟨Nat.le_of_ble_eq_true rfl, Nat.le_of_ble_eq_true rfl⟩ hb1 hb2 (T := TX7) (N := 12) rfl rfl (Nat.le_of_ble_eq_true rfl) dX7_isTold_27 ⟨Nat.le_of_ble_eq_true rfl, Nat.le_of_ble_eq_true rfl⟩) (fun v12 S11 hf H locs hH => ?_)
      refine lv_if_eq (tgt := 37) hx hb dX7_isTold_30 (by decide) (fun c13 => ?_) (fun c13 => ?_)
      · have hf := (if_pos c13).mp hf
        refine lv_iconst (v := 0) hx hb dX7_isTold_37 (by decide) ?_
        exact q_retZ X hH hr hlk hf (Nat.zero_le _) (Nat.zero_le _) dX7_isTold_38
      · have hf := (if_neg c13).mp hf
        refine lv_iconst (v := 1) hx hb dX7_isTold_33 (by decide) ?_
        refine lv_goto (tgt := 38) hx hb dX7_isTold_34 (by decide) ?_
        exact q_retZ X hH hr hlk hf (Nat.zero_le _) (Nat.zero_le _) dX7_isTold_38
  · have hf := (if_neg c7).mp hf
    refine lv_iconst (v := 0) hx hb dX7_isTold_17 (by decide) ?_
    exact q_retZ X hH hr hlk hf (Nat.zero_le _) (Nat.zero_le _) dX7_isTold_18
-- X7_changed
def f_X7_changed (S : PS) (a0 : Nat) (a1 : Int32) (a2 : Int32) (a3 : Int32) (a4 : Int32) (bc bs : Nat) (post : Int32 → PS → Prop) : Prop :=
  gR S a0 11 3 fun v1 => (
  gR S a0 11 0 fun v2 => (
  isO S v1 6 (
  ∃ mc4 ms4 : Nat, mc4 ≤ bc ∧ ms4 ≤ bs ∧ (f_X2_keep S v1 v2 mc4 ms4 fun S3 => (
  isO S3 a0 11 (
  f_X7_done S3 a0 a1 a2 a3 a4 fun v7 S6 => (
  post v7 S6)))))))
abbrev rm_X7_changed (mc ms : Nat) : Room := { frames := 6, cells := mc, slots := ms, locals := 132 }
set_option maxHeartbeats 4000000 in
set_option maxRecDepth 100000 in
theorem c_X7_changed (l : Launch) (D : va_G) (cy : Nat → ClassId) (G : p_GT) (hG : p_ok G) (S : PS) (a0 : Nat) (a1 : Int32) (a2 : Int32) (a3 : Int32) (a4 : Int32) (mc ms : Nat) (post : Int32 → PS → Prop) (sz : Nat) (hf : f_X7_changed S a0 a1 a2 a3 a4 mc ms post) : p_Mi l D cy G S sz yX7_changed (Cond.code yX7_changed cX7_changed 5 (some .int) :: wG) (rm_X7_changed mc ms) [.ref a0, .int a1, .int a2, .int a3, .int a4] mc ms post := by
  refine q_start hG (Qc := fun A => va_Qi post (p_Post D cy A) A) mf_X7_changed (Nat.le_of_ble_eq_true rfl) (own := RX7) rfl ?_
  intro p e s m below meth c A X hr hlk hnm ls hl hH
  have hx := X.1.1
  have hb := X.1.2.1
  replace hl : lv_has ls 5 [(0, .ref a0), (1, .int a1), (2, .int a2), (3, .int a3), (4, .int a4)] := hl
  have main : ∀ (H : Heap) (locs : List Loc) (ls : Array Slot) (cells slots bc bs : Nat), f_X7_changed S a0 a1 a2 a3 a4 bc bs post → p_H D cy S A s H locs → lv_has ls 5 [(0, .ref a0), (1, .int a1), (2, .int a2), (3, .int a3), (4, .int a4)] → cells + bc ≤ mc ∧ slots + bs ≤ ms → W p l e (rm_X7_changed mc ms) s m [.ref a0, .int a1, .int a2, .int a3, .int a4].toArray below meth c H locs cells slots (MQ below (va_Qi post (p_Post D cy A) A) [.ref a0, .int a1, .int a2, .int a3, .int a4].toArray s mc ms A) (F0 m 0 ls []) := by
    intro H locs ls cells slots bc bs hf hH hl hB
    refine lv_aload_n hx hb dX7_changed_0 rfl (lv_at hl 0 rfl) ?_
    refine q_getR (T := TX7) (N := 12) X hH hf iw_X7 rfl (by decide) tw_322 (fun _ h => h) dX7_changed_1 (fun v1 hf => ?_)
    refine lv_aload_n hx hb dX7_changed_4 rfl (lv_at hl 0 rfl) ?_
    refine q_getR (T := TX7) (N := 12) X hH hf iw_X7 rfl (by decide) tw_319 (fun _ h => h) dX7_changed_5 (fun v2 hf => ?_)
    obtain ⟨hb1, hb2, hf⟩ := hf
    obtain ⟨mc4, ms4, hm1, hs1, hf⟩ := hf
    refine q_backVB X hH hB hm1 hs1 (q_runV [.ref v2] [] X hH hl (c_X2_keep l D cy G X.2.2.2.1 S v1 v2 mc4 ms4 _ _ hf) mf_X2_keep mv_X2_keep tw_1007 ⟨Nat.le_of_ble_eq_true rfl, Nat.le_of_ble_eq_true rfl⟩ hb1 hb2 (T := TX2) (N := 3) rfl rfl (Nat.le_of_ble_eq_true rfl) dX7_changed_8 ⟨Nat.le_trans (Nat.add_le_add_left hm1 _) hB.1, Nat.le_trans (Nat.add_le_add_left hs1 _) hB.2⟩) (fun S3 hf H locs cells slots hH hB => ?_)
    refine lv_aload_n hx hb dX7_changed_11 rfl (lv_at hl 0 rfl) ?_
    refine lv_iload_n hx hb dX7_changed_12 rfl (lv_at hl 1 rfl) ?_
    refine lv_iload_n hx hb dX7_changed_13 rfl (lv_at hl 2 rfl) ?_
    refine lv_iload_n hx hb dX7_changed_14 rfl (lv_at hl 3 rfl) ?_
    refine lv_iload hx hb dX7_changed_15 (lv_at hl 4 rfl) ?_
    obtain ⟨hb1, hb2, hf⟩ := hf
    refine q_backI0 X hH (q_runV [.int a1, .int a2, .int a3, .int a4] [] X hH hl (c_X7_done l D cy G X.2.2.2.1 S3 a0 a1 a2 a3 a4 _ _ hf) mf_X7_done mv_X7_done tw_1014 ⟨Nat.le_of_ble_eq_true rfl, Nat.le_of_ble_eq_true rfl⟩ hb1 hb2 (T := TX7) (N := 12) rfl rfl (Nat.le_of_ble_eq_true rfl) dX7_changed_17 ⟨Nat.le_trans (Nat.le_add_right _ _) hB.1, Nat.le_trans (Nat.le_add_right _ _) hB.2⟩) (fun v7 S6 hf H locs hH => ?_)
    exact q_retI X hH hr hlk hf (Nat.le_trans (Nat.le_add_right _ _) hB.1) (Nat.le_trans (Nat.le_add_right _ _) hB.2) dX7_changed_20
  exact main s.heap [] ls 0 0 mc ms hf hH hl ⟨by omega, by omega⟩
-- X7_household
def f_X7_household (S : PS) (a0 : Nat) (bc bs : Nat) (post : Int32 → PS → Prop) (postX : String → PS → Prop) : Prop :=
  isO S a0 11 (
  f_X7_refuses S a0 0 0 0 0 fun v2 S1 => (
  if v2 = 0 then
    isO S1 a0 11 (
    ∃ mc5 ms5 : Nat, mc5 ≤ bc ∧ ms5 ≤ bs ∧ (f_X7_changed S1 a0 0 0 0 0 mc5 ms5 fun v6 S4 => (
    post v6 S4)))
  else
    tX S1 "java/lang/UnsupportedOperationException" bc bs postX))
abbrev rm_X7_household (mc ms : Nat) : Room := { frames := 7, cells := mc, slots := ms, locals := 156 }
set_option maxHeartbeats 4000000 in
set_option maxRecDepth 100000 in
theorem c_X7_household (l : Launch) (D : va_G) (cy : Nat → ClassId) (G : p_GT) (hG : p_ok G) (hst : l.stackTraces = false) (hGE : ∀ (A : Nat → Prop) (U : State) (H : Heap), G A U H → p_Ex A U H) (S : PS) (a0 : Nat) (mc ms : Nat) (post : Int32 → PS → Prop) (postX : String → PS → Prop) (sz : Nat) (hf : f_X7_household S a0 mc ms post postX) : p_Xi l D cy G S sz yX7_household (Cond.code yX7_household cX7_household 1 (some .int) :: wG) (rm_X7_household mc ms) [.ref a0] mc ms post postX := by
  refine q_startX hG (Qc := fun A => va_Qi post (p_Post D cy A) A) (XC := fun A => p_XC D cy A postX) mf_X7_household (Nat.le_of_ble_eq_true rfl) (own := RX7) rfl ?_
  intro p e s m below meth c A X hr hlk hnm htab ls hl hH
  have hx := X.1.1
  have hb := X.1.2.1
  replace hl : lv_has ls 1 [(0, .ref a0)] := hl
  have main : ∀ (H : Heap) (locs : List Loc) (ls : Array Slot) (cells slots bc bs : Nat), f_X7_household S a0 bc bs post postX → p_H D cy S A s H locs → lv_has ls 1 [(0, .ref a0)] → cells + bc ≤ mc ∧ slots + bs ≤ ms → W p l e (rm_X7_household mc ms) s m [.ref a0].toArray below meth c H locs cells slots (vx_MQ below (va_Qi post (p_Post D cy A) A) (p_XC D cy A postX) [.ref a0].toArray s mc ms A) (F0 m 0 ls []) := by
    intro H locs ls cells slots bc bs hf hH hl hB
    refine lv_aload_n hx hb dX7_household_0 rfl (lv_at hl 0 rfl) ?_
    refine lv_iconst (v := 0) hx hb dX7_household_1 (by decide) ?_
    refine lv_iconst (v := 0) hx hb dX7_household_2 (by decide) ?_
    refine lv_iconst (v := 0) hx hb dX7_household_3 (by decide) ?_
    refine lv_iconst (v := 0) hx hb dX7_household_4 (by decide) ?_
    obtain ⟨hb1, hb2, hf⟩ := hf
    refine q_backI0 X hH (q_runV [.int 0, .int 0, .int 0, .int 0] [] X hH hl (c_X7_refuses l D cy G X.2.2.2.1 S a0 0 0 0 0 _ _ hf) mf_X7_refuses mv_X7_refuses tw_957 ⟨Nat.le_of_ble_eq_true rfl, Nat.le_of_ble_eq_true rfl⟩ hb1 hb2 (T := TX7) (N := 12) rfl rfl (Nat.le_of_ble_eq_true rfl) dX7_household_5 ⟨Nat.le_trans (Nat.le_add_right _ _) hB.1, Nat.le_trans (Nat.le_add_right _ _) hB.2⟩) (fun v2 S1 hf H locs hH => ?_)
    refine lv_if_eq (tgt := 21) hx hb dX7_household_8 (by decide) (fun c3 => ?_) (fun c3 => ?_)
    · have hf := (if_pos c3).mp hf
      refine lv_aload_n hx hb dX7_household_21 rfl (lv_at hl 0 rfl) ?_
      refine lv_iconst (v := 0) hx hb dX7_household_22 (by decide) ?_
      refine lv_iconst (v := 0) hx hb dX7_household_23 (by decide) ?_
      refine lv_iconst (v := 0) hx hb dX7_household_24 (by decide) ?_
      refine lv_iconst (v := 0) hx hb dX7_household_25 (by decide) ?_
      obtain ⟨hb1, hb2, hf⟩ := hf
      obtain ⟨mc5, ms5, hm1, hs1, hf⟩ := hf
      refine q_backIB X hH hB hm1 hs1 (q_runV [.int 0, .int 0, .int 0, .int 0] [] X hH hl (c_X7_changed l D cy G X.2.2.2.1 S1 a0 0 0 0 0 mc5 ms5 _ _ hf) mf_X7_changed mv_X7_changed tw_1003 ⟨Nat.le_of_ble_eq_true rfl, Nat.le_of_ble_eq_true rfl⟩ hb1 hb2 (T := TX7) (N := 12) rfl rfl (Nat.le_of_ble_eq_true rfl) dX7_household_26 ⟨Nat.le_trans (Nat.add_le_add_left hm1 _) hB.1, Nat.le_trans (Nat.add_le_add_left hs1 _) hB.2⟩) (fun v6 S4 hf H locs cells slots hH hB => ?_)
      exact vx_ret (q_retI X hH hr hlk hf (Nat.le_trans (Nat.le_add_right _ _) hB.1) (Nat.le_trans (Nat.le_add_right _ _) hB.2) dX7_household_29)
    · have hf := (if_neg c3).mp hf
      exact q_throw X hH hl hB rfl rfl hst (hGE _ _ _ X.2.2.2.2) hf tw_987 tw_108 (text := "the village is full") (List.mem_of_getElem? (i := 0) rfl) xa_UnsupportedOperationException xg_UnsupportedOperationException (by decide +kernel) (by decide +kernel) dX7_household_11 dX7_household_14 dX7_household_15 dX7_household_17 dX7_household_20 htab ⟨Nat.le_of_ble_eq_true rfl, Nat.le_of_ble_eq_true rfl⟩ (Nat.le_of_ble_eq_true rfl) hlk
  exact main s.heap [] ls 0 0 mc ms hf hH hl ⟨by omega, by omega⟩
-- X7_leave
def f_X7_leave (S : PS) (a0 : Nat) (a1 : Int32) (bc bs : Nat) (post : Int32 → PS → Prop) (postX : String → PS → Prop) : Prop :=
  isO S a0 11 (
  f_X7_refuses S a0 1 a1 0 0 fun v2 S1 => (
  if v2 = 0 then
    isO S1 a0 11 (
    ∃ mc5 ms5 : Nat, mc5 ≤ bc ∧ ms5 ≤ bs ∧ (f_X7_changed S1 a0 1 a1 0 0 mc5 ms5 fun v6 S4 => (
    post v6 S4)))
  else
    tX S1 "java/lang/UnsupportedOperationException" bc bs postX))
abbrev rm_X7_leave (mc ms : Nat) : Room := { frames := 7, cells := mc, slots := ms, locals := 156 }
set_option maxHeartbeats 4000000 in
set_option maxRecDepth 100000 in
theorem c_X7_leave (l : Launch) (D : va_G) (cy : Nat → ClassId) (G : p_GT) (hG : p_ok G) (hst : l.stackTraces = false) (hGE : ∀ (A : Nat → Prop) (U : State) (H : Heap), G A U H → p_Ex A U H) (S : PS) (a0 : Nat) (a1 : Int32) (mc ms : Nat) (post : Int32 → PS → Prop) (postX : String → PS → Prop) (sz : Nat) (hf : f_X7_leave S a0 a1 mc ms post postX) : p_Xi l D cy G S sz yX7_leave (Cond.code yX7_leave cX7_leave 2 (some .int) :: wG) (rm_X7_leave mc ms) [.ref a0, .int a1] mc ms post postX := by
  refine q_startX hG (Qc := fun A => va_Qi post (p_Post D cy A) A) (XC := fun A => p_XC D cy A postX) mf_X7_leave (Nat.le_of_ble_eq_true rfl) (own := RX7) rfl ?_
  intro p e s m below meth c A X hr hlk hnm htab ls hl hH
  have hx := X.1.1
  have hb := X.1.2.1
  replace hl : lv_has ls 2 [(0, .ref a0), (1, .int a1)] := hl
  have main : ∀ (H : Heap) (locs : List Loc) (ls : Array Slot) (cells slots bc bs : Nat), f_X7_leave S a0 a1 bc bs post postX → p_H D cy S A s H locs → lv_has ls 2 [(0, .ref a0), (1, .int a1)] → cells + bc ≤ mc ∧ slots + bs ≤ ms → W p l e (rm_X7_leave mc ms) s m [.ref a0, .int a1].toArray below meth c H locs cells slots (vx_MQ below (va_Qi post (p_Post D cy A) A) (p_XC D cy A postX) [.ref a0, .int a1].toArray s mc ms A) (F0 m 0 ls []) := by
    intro H locs ls cells slots bc bs hf hH hl hB
    refine lv_aload_n hx hb dX7_leave_0 rfl (lv_at hl 0 rfl) ?_
    refine lv_iconst (v := 1) hx hb dX7_leave_1 (by decide) ?_
    refine lv_iload_n hx hb dX7_leave_2 rfl (lv_at hl 1 rfl) ?_
    refine lv_iconst (v := 0) hx hb dX7_leave_3 (by decide) ?_
    refine lv_iconst (v := 0) hx hb dX7_leave_4 (by decide) ?_
    obtain ⟨hb1, hb2, hf⟩ := hf
    refine q_backI0 X hH (q_runV [.int 1, .int a1, .int 0, .int 0] [] X hH hl (c_X7_refuses l D cy G X.2.2.2.1 S a0 1 a1 0 0 _ _ hf) mf_X7_refuses mv_X7_refuses tw_957 ⟨Nat.le_of_ble_eq_true rfl, Nat.le_of_ble_eq_true rfl⟩ hb1 hb2 (T := TX7) (N := 12) rfl rfl (Nat.le_of_ble_eq_true rfl) dX7_leave_5 ⟨Nat.le_trans (Nat.le_add_right _ _) hB.1, Nat.le_trans (Nat.le_add_right _ _) hB.2⟩) (fun v2 S1 hf H locs hH => ?_)
    refine lv_if_eq (tgt := 21) hx hb dX7_leave_8 (by decide) (fun c3 => ?_) (fun c3 => ?_)
    · have hf := (if_pos c3).mp hf
      refine lv_aload_n hx hb dX7_leave_21 rfl (lv_at hl 0 rfl) ?_
      refine lv_iconst (v := 1) hx hb dX7_leave_22 (by decide) ?_
      refine lv_iload_n hx hb dX7_leave_23 rfl (lv_at hl 1 rfl) ?_
      refine lv_iconst (v := 0) hx hb dX7_leave_24 (by decide) ?_
      refine lv_iconst (v := 0) hx hb dX7_leave_25 (by decide) ?_
      obtain ⟨hb1, hb2, hf⟩ := hf
      obtain ⟨mc5, ms5, hm1, hs1, hf⟩ := hf
      refine q_backIB X hH hB hm1 hs1 (q_runV [.int 1, .int a1, .int 0, .int 0] [] X hH hl (c_X7_changed l D cy G X.2.2.2.1 S1 a0 1 a1 0 0 mc5 ms5 _ _ hf) mf_X7_changed mv_X7_changed tw_1003 ⟨Nat.le_of_ble_eq_true rfl, Nat.le_of_ble_eq_true rfl⟩ hb1 hb2 (T := TX7) (N := 12) rfl rfl (Nat.le_of_ble_eq_true rfl) dX7_leave_26 ⟨Nat.le_trans (Nat.add_le_add_left hm1 _) hB.1, Nat.le_trans (Nat.add_le_add_left hs1 _) hB.2⟩) (fun v6 S4 hf H locs cells slots hH hB => ?_)
      exact vx_ret (q_retI X hH hr hlk hf (Nat.le_trans (Nat.le_add_right _ _) hB.1) (Nat.le_trans (Nat.le_add_right _ _) hB.2) dX7_leave_29)
    · have hf := (if_neg c3).mp hf
      exact q_throw X hH hl hB rfl rfl hst (hGE _ _ _ X.2.2.2.2) hf tw_987 tw_108 (text := "there is no such household") (List.mem_of_getElem? (i := 1) rfl) xa_UnsupportedOperationException xg_UnsupportedOperationException (by decide +kernel) (by decide +kernel) dX7_leave_11 dX7_leave_14 dX7_leave_15 dX7_leave_17 dX7_leave_20 htab ⟨Nat.le_of_ble_eq_true rfl, Nat.le_of_ble_eq_true rfl⟩ (Nat.le_of_ble_eq_true rfl) hlk
  exact main s.heap [] ls 0 0 mc ms hf hH hl ⟨by omega, by omega⟩
-- X7_bond
def f_X7_bond (S : PS) (a0 : Nat) (a1 : Int32) (a2 : Int32) (a3 : Int32) (bc bs : Nat) (post : Int32 → PS → Prop) (postX : String → PS → Prop) : Prop :=
  isO S a0 11 (
  f_X7_refuses S a0 2 a1 a2 a3 fun v2 S1 => (
  if v2 = 0 then
    isO S1 a0 11 (
    ∃ mc5 ms5 : Nat, mc5 ≤ bc ∧ ms5 ≤ bs ∧ (f_X7_changed S1 a0 2 a1 a2 a3 mc5 ms5 fun v6 S4 => (
    post v6 S4)))
  else
    tX S1 "java/lang/UnsupportedOperationException" bc bs postX))
abbrev rm_X7_bond (mc ms : Nat) : Room := { frames := 7, cells := mc, slots := ms, locals := 156 }
set_option maxHeartbeats 4000000 in
set_option maxRecDepth 100000 in
theorem c_X7_bond (l : Launch) (D : va_G) (cy : Nat → ClassId) (G : p_GT) (hG : p_ok G) (hst : l.stackTraces = false) (hGE : ∀ (A : Nat → Prop) (U : State) (H : Heap), G A U H → p_Ex A U H) (S : PS) (a0 : Nat) (a1 : Int32) (a2 : Int32) (a3 : Int32) (mc ms : Nat) (post : Int32 → PS → Prop) (postX : String → PS → Prop) (sz : Nat) (hf : f_X7_bond S a0 a1 a2 a3 mc ms post postX) : p_Xi l D cy G S sz yX7_bond (Cond.code yX7_bond cX7_bond 4 (some .int) :: wG) (rm_X7_bond mc ms) [.ref a0, .int a1, .int a2, .int a3] mc ms post postX := by
  refine q_startX hG (Qc := fun A => va_Qi post (p_Post D cy A) A) (XC := fun A => p_XC D cy A postX) mf_X7_bond (Nat.le_of_ble_eq_true rfl) (own := RX7) rfl ?_
  intro p e s m below meth c A X hr hlk hnm htab ls hl hH
  have hx := X.1.1
  have hb := X.1.2.1
  replace hl : lv_has ls 4 [(0, .ref a0), (1, .int a1), (2, .int a2), (3, .int a3)] := hl
  have main : ∀ (H : Heap) (locs : List Loc) (ls : Array Slot) (cells slots bc bs : Nat), f_X7_bond S a0 a1 a2 a3 bc bs post postX → p_H D cy S A s H locs → lv_has ls 4 [(0, .ref a0), (1, .int a1), (2, .int a2), (3, .int a3)] → cells + bc ≤ mc ∧ slots + bs ≤ ms → W p l e (rm_X7_bond mc ms) s m [.ref a0, .int a1, .int a2, .int a3].toArray below meth c H locs cells slots (vx_MQ below (va_Qi post (p_Post D cy A) A) (p_XC D cy A postX) [.ref a0, .int a1, .int a2, .int a3].toArray s mc ms A) (F0 m 0 ls []) := by
    intro H locs ls cells slots bc bs hf hH hl hB
    refine lv_aload_n hx hb dX7_bond_0 rfl (lv_at hl 0 rfl) ?_
    refine lv_iconst (v := 2) hx hb dX7_bond_1 (by decide) ?_
    refine lv_iload_n hx hb dX7_bond_2 rfl (lv_at hl 1 rfl) ?_
    refine lv_iload_n hx hb dX7_bond_3 rfl (lv_at hl 2 rfl) ?_
    refine lv_iload_n hx hb dX7_bond_4 rfl (lv_at hl 3 rfl) ?_
    obtain ⟨hb1, hb2, hf⟩ := hf
    refine q_backI0 X hH (q_runV [.int 2, .int a1, .int a2, .int a3] [] X hH hl (c_X7_refuses l D cy G X.2.2.2.1 S a0 2 a1 a2 a3 _ _ hf) mf_X7_refuses mv_X7_refuses tw_957 ⟨Nat.le_of_ble_eq_true rfl, Nat.le_of_ble_eq_true rfl⟩ hb1 hb2 (T := TX7) (N := 12) rfl rfl (Nat.le_of_ble_eq_true rfl) dX7_bond_5 ⟨Nat.le_trans (Nat.le_add_right _ _) hB.1, Nat.le_trans (Nat.le_add_right _ _) hB.2⟩) (fun v2 S1 hf H locs hH => ?_)
    refine lv_if_eq (tgt := 21) hx hb dX7_bond_8 (by decide) (fun c3 => ?_) (fun c3 => ?_)
    · have hf := (if_pos c3).mp hf
      refine lv_aload_n hx hb dX7_bond_21 rfl (lv_at hl 0 rfl) ?_
      refine lv_iconst (v := 2) hx hb dX7_bond_22 (by decide) ?_
      refine lv_iload_n hx hb dX7_bond_23 rfl (lv_at hl 1 rfl) ?_
      refine lv_iload_n hx hb dX7_bond_24 rfl (lv_at hl 2 rfl) ?_
      refine lv_iload_n hx hb dX7_bond_25 rfl (lv_at hl 3 rfl) ?_
      obtain ⟨hb1, hb2, hf⟩ := hf
      obtain ⟨mc5, ms5, hm1, hs1, hf⟩ := hf
      refine q_backIB X hH hB hm1 hs1 (q_runV [.int 2, .int a1, .int a2, .int a3] [] X hH hl (c_X7_changed l D cy G X.2.2.2.1 S1 a0 2 a1 a2 a3 mc5 ms5 _ _ hf) mf_X7_changed mv_X7_changed tw_1003 ⟨Nat.le_of_ble_eq_true rfl, Nat.le_of_ble_eq_true rfl⟩ hb1 hb2 (T := TX7) (N := 12) rfl rfl (Nat.le_of_ble_eq_true rfl) dX7_bond_26 ⟨Nat.le_trans (Nat.add_le_add_left hm1 _) hB.1, Nat.le_trans (Nat.add_le_add_left hs1 _) hB.2⟩) (fun v6 S4 hf H locs cells slots hH hB => ?_)
      exact vx_ret (q_retI X hH hr hlk hf (Nat.le_trans (Nat.le_add_right _ _) hB.1) (Nat.le_trans (Nat.le_add_right _ _) hB.2) dX7_bond_29)
    · have hf := (if_neg c3).mp hf
      exact q_throw X hH hl hB rfl rfl hst (hGE _ _ _ X.2.2.2.2) hf tw_987 tw_108 (text := "the bond is refused") (List.mem_of_getElem? (i := 2) rfl) xa_UnsupportedOperationException xg_UnsupportedOperationException (by decide +kernel) (by decide +kernel) dX7_bond_11 dX7_bond_14 dX7_bond_15 dX7_bond_17 dX7_bond_20 htab ⟨Nat.le_of_ble_eq_true rfl, Nat.le_of_ble_eq_true rfl⟩ (Nat.le_of_ble_eq_true rfl) hlk
  exact main s.heap [] ls 0 0 mc ms hf hH hl ⟨by omega, by omega⟩
-- X7_loosen
def f_X7_loosen (S : PS) (a0 : Nat) (a1 : Int32) (a2 : Int32) (bc bs : Nat) (post : Int32 → PS → Prop) (postX : String → PS → Prop) : Prop :=
  isO S a0 11 (
  f_X7_refuses S a0 3 a1 a2 0 fun v2 S1 => (
  if v2 = 0 then
    isO S1 a0 11 (
    ∃ mc5 ms5 : Nat, mc5 ≤ bc ∧ ms5 ≤ bs ∧ (f_X7_changed S1 a0 3 a1 a2 0 mc5 ms5 fun v6 S4 => (
    post v6 S4)))
  else
    tX S1 "java/lang/UnsupportedOperationException" bc bs postX))
abbrev rm_X7_loosen (mc ms : Nat) : Room := { frames := 7, cells := mc, slots := ms, locals := 156 }
set_option maxHeartbeats 4000000 in
set_option maxRecDepth 100000 in
theorem c_X7_loosen (l : Launch) (D : va_G) (cy : Nat → ClassId) (G : p_GT) (hG : p_ok G) (hst : l.stackTraces = false) (hGE : ∀ (A : Nat → Prop) (U : State) (H : Heap), G A U H → p_Ex A U H) (S : PS) (a0 : Nat) (a1 : Int32) (a2 : Int32) (mc ms : Nat) (post : Int32 → PS → Prop) (postX : String → PS → Prop) (sz : Nat) (hf : f_X7_loosen S a0 a1 a2 mc ms post postX) : p_Xi l D cy G S sz yX7_loosen (Cond.code yX7_loosen cX7_loosen 3 (some .int) :: wG) (rm_X7_loosen mc ms) [.ref a0, .int a1, .int a2] mc ms post postX := by
  refine q_startX hG (Qc := fun A => va_Qi post (p_Post D cy A) A) (XC := fun A => p_XC D cy A postX) mf_X7_loosen (Nat.le_of_ble_eq_true rfl) (own := RX7) rfl ?_
  intro p e s m below meth c A X hr hlk hnm htab ls hl hH
  have hx := X.1.1
  have hb := X.1.2.1
  replace hl : lv_has ls 3 [(0, .ref a0), (1, .int a1), (2, .int a2)] := hl
  have main : ∀ (H : Heap) (locs : List Loc) (ls : Array Slot) (cells slots bc bs : Nat), f_X7_loosen S a0 a1 a2 bc bs post postX → p_H D cy S A s H locs → lv_has ls 3 [(0, .ref a0), (1, .int a1), (2, .int a2)] → cells + bc ≤ mc ∧ slots + bs ≤ ms → W p l e (rm_X7_loosen mc ms) s m [.ref a0, .int a1, .int a2].toArray below meth c H locs cells slots (vx_MQ below (va_Qi post (p_Post D cy A) A) (p_XC D cy A postX) [.ref a0, .int a1, .int a2].toArray s mc ms A) (F0 m 0 ls []) := by
    intro H locs ls cells slots bc bs hf hH hl hB
    refine lv_aload_n hx hb dX7_loosen_0 rfl (lv_at hl 0 rfl) ?_
    refine lv_iconst (v := 3) hx hb dX7_loosen_1 (by decide) ?_
    refine lv_iload_n hx hb dX7_loosen_2 rfl (lv_at hl 1 rfl) ?_
    refine lv_iload_n hx hb dX7_loosen_3 rfl (lv_at hl 2 rfl) ?_
    refine lv_iconst (v := 0) hx hb dX7_loosen_4 (by decide) ?_
    obtain ⟨hb1, hb2, hf⟩ := hf
    refine q_backI0 X hH (q_runV [.int 3, .int a1, .int a2, .int 0] [] X hH hl (c_X7_refuses l D cy G X.2.2.2.1 S a0 3 a1 a2 0 _ _ hf) mf_X7_refuses mv_X7_refuses tw_957 ⟨Nat.le_of_ble_eq_true rfl, Nat.le_of_ble_eq_true rfl⟩ hb1 hb2 (T := TX7) (N := 12) rfl rfl (Nat.le_of_ble_eq_true rfl) dX7_loosen_5 ⟨Nat.le_trans (Nat.le_add_right _ _) hB.1, Nat.le_trans (Nat.le_add_right _ _) hB.2⟩) (fun v2 S1 hf H locs hH => ?_)
    refine lv_if_eq (tgt := 21) hx hb dX7_loosen_8 (by decide) (fun c3 => ?_) (fun c3 => ?_)
    · have hf := (if_pos c3).mp hf
      refine lv_aload_n hx hb dX7_loosen_21 rfl (lv_at hl 0 rfl) ?_
      refine lv_iconst (v := 3) hx hb dX7_loosen_22 (by decide) ?_
      refine lv_iload_n hx hb dX7_loosen_23 rfl (lv_at hl 1 rfl) ?_
      refine lv_iload_n hx hb dX7_loosen_24 rfl (lv_at hl 2 rfl) ?_
      refine lv_iconst (v := 0) hx hb dX7_loosen_25 (by decide) ?_
      obtain ⟨hb1, hb2, hf⟩ := hf
      obtain ⟨mc5, ms5, hm1, hs1, hf⟩ := hf
      refine q_backIB X hH hB hm1 hs1 (q_runV [.int 3, .int a1, .int a2, .int 0] [] X hH hl (c_X7_changed l D cy G X.2.2.2.1 S1 a0 3 a1 a2 0 mc5 ms5 _ _ hf) mf_X7_changed mv_X7_changed tw_1003 ⟨Nat.le_of_ble_eq_true rfl, Nat.le_of_ble_eq_true rfl⟩ hb1 hb2 (T := TX7) (N := 12) rfl rfl (Nat.le_of_ble_eq_true rfl) dX7_loosen_26 ⟨Nat.le_trans (Nat.add_le_add_left hm1 _) hB.1, Nat.le_trans (Nat.add_le_add_left hs1 _) hB.2⟩) (fun v6 S4 hf H locs cells slots hH hB => ?_)
      exact vx_ret (q_retI X hH hr hlk hf (Nat.le_trans (Nat.le_add_right _ _) hB.1) (Nat.le_trans (Nat.le_add_right _ _) hB.2) dX7_loosen_29)
    · have hf := (if_neg c3).mp hf
      exact q_throw X hH hl hB rfl rfl hst (hGE _ _ _ X.2.2.2.2) hf tw_987 tw_108 (text := "the bond cannot be loosened") (List.mem_of_getElem? (i := 3) rfl) xa_UnsupportedOperationException xg_UnsupportedOperationException (by decide +kernel) (by decide +kernel) dX7_loosen_11 dX7_loosen_14 dX7_loosen_15 dX7_loosen_17 dX7_loosen_20 htab ⟨Nat.le_of_ble_eq_true rfl, Nat.le_of_ble_eq_true rfl⟩ (Nat.le_of_ble_eq_true rfl) hlk
  exact main s.heap [] ls 0 0 mc ms hf hH hl ⟨by omega, by omega⟩
-- X7_marry
def f_X7_marry (S : PS) (a0 : Nat) (a1 : Int32) (a2 : Int32) (bc bs : Nat) (post : Int32 → PS → Prop) (postX : String → PS → Prop) : Prop :=
  isO S a0 11 (
  f_X7_refuses S a0 4 a1 a2 0 fun v2 S1 => (
  if v2 = 0 then
    isO S1 a0 11 (
    ∃ mc5 ms5 : Nat, mc5 ≤ bc ∧ ms5 ≤ bs ∧ (f_X7_changed S1 a0 4 a1 a2 0 mc5 ms5 fun v6 S4 => (
    post v6 S4)))
  else
    tX S1 "java/lang/UnsupportedOperationException" bc bs postX))
abbrev rm_X7_marry (mc ms : Nat) : Room := { frames := 7, cells := mc, slots := ms, locals := 156 }
set_option maxHeartbeats 4000000 in
set_option maxRecDepth 100000 in
theorem c_X7_marry (l : Launch) (D : va_G) (cy : Nat → ClassId) (G : p_GT) (hG : p_ok G) (hst : l.stackTraces = false) (hGE : ∀ (A : Nat → Prop) (U : State) (H : Heap), G A U H → p_Ex A U H) (S : PS) (a0 : Nat) (a1 : Int32) (a2 : Int32) (mc ms : Nat) (post : Int32 → PS → Prop) (postX : String → PS → Prop) (sz : Nat) (hf : f_X7_marry S a0 a1 a2 mc ms post postX) : p_Xi l D cy G S sz yX7_marry (Cond.code yX7_marry cX7_marry 3 (some .int) :: wG) (rm_X7_marry mc ms) [.ref a0, .int a1, .int a2] mc ms post postX := by
  refine q_startX hG (Qc := fun A => va_Qi post (p_Post D cy A) A) (XC := fun A => p_XC D cy A postX) mf_X7_marry (Nat.le_of_ble_eq_true rfl) (own := RX7) rfl ?_
  intro p e s m below meth c A X hr hlk hnm htab ls hl hH
  have hx := X.1.1
  have hb := X.1.2.1
  replace hl : lv_has ls 3 [(0, .ref a0), (1, .int a1), (2, .int a2)] := hl
  have main : ∀ (H : Heap) (locs : List Loc) (ls : Array Slot) (cells slots bc bs : Nat), f_X7_marry S a0 a1 a2 bc bs post postX → p_H D cy S A s H locs → lv_has ls 3 [(0, .ref a0), (1, .int a1), (2, .int a2)] → cells + bc ≤ mc ∧ slots + bs ≤ ms → W p l e (rm_X7_marry mc ms) s m [.ref a0, .int a1, .int a2].toArray below meth c H locs cells slots (vx_MQ below (va_Qi post (p_Post D cy A) A) (p_XC D cy A postX) [.ref a0, .int a1, .int a2].toArray s mc ms A) (F0 m 0 ls []) := by
    intro H locs ls cells slots bc bs hf hH hl hB
    refine lv_aload_n hx hb dX7_marry_0 rfl (lv_at hl 0 rfl) ?_
    refine lv_iconst (v := 4) hx hb dX7_marry_1 (by decide) ?_
    refine lv_iload_n hx hb dX7_marry_2 rfl (lv_at hl 1 rfl) ?_
    refine lv_iload_n hx hb dX7_marry_3 rfl (lv_at hl 2 rfl) ?_
    refine lv_iconst (v := 0) hx hb dX7_marry_4 (by decide) ?_
    obtain ⟨hb1, hb2, hf⟩ := hf
    refine q_backI0 X hH (q_runV [.int 4, .int a1, .int a2, .int 0] [] X hH hl (c_X7_refuses l D cy G X.2.2.2.1 S a0 4 a1 a2 0 _ _ hf) mf_X7_refuses mv_X7_refuses tw_957 ⟨Nat.le_of_ble_eq_true rfl, Nat.le_of_ble_eq_true rfl⟩ hb1 hb2 (T := TX7) (N := 12) rfl rfl (Nat.le_of_ble_eq_true rfl) dX7_marry_5 ⟨Nat.le_trans (Nat.le_add_right _ _) hB.1, Nat.le_trans (Nat.le_add_right _ _) hB.2⟩) (fun v2 S1 hf H locs hH => ?_)
    refine lv_if_eq (tgt := 21) hx hb dX7_marry_8 (by decide) (fun c3 => ?_) (fun c3 => ?_)
    · have hf := (if_pos c3).mp hf
      refine lv_aload_n hx hb dX7_marry_21 rfl (lv_at hl 0 rfl) ?_
      refine lv_iconst (v := 4) hx hb dX7_marry_22 (by decide) ?_
      refine lv_iload_n hx hb dX7_marry_23 rfl (lv_at hl 1 rfl) ?_
      refine lv_iload_n hx hb dX7_marry_24 rfl (lv_at hl 2 rfl) ?_
      refine lv_iconst (v := 0) hx hb dX7_marry_25 (by decide) ?_
      obtain ⟨hb1, hb2, hf⟩ := hf
      obtain ⟨mc5, ms5, hm1, hs1, hf⟩ := hf
      refine q_backIB X hH hB hm1 hs1 (q_runV [.int 4, .int a1, .int a2, .int 0] [] X hH hl (c_X7_changed l D cy G X.2.2.2.1 S1 a0 4 a1 a2 0 mc5 ms5 _ _ hf) mf_X7_changed mv_X7_changed tw_1003 ⟨Nat.le_of_ble_eq_true rfl, Nat.le_of_ble_eq_true rfl⟩ hb1 hb2 (T := TX7) (N := 12) rfl rfl (Nat.le_of_ble_eq_true rfl) dX7_marry_26 ⟨Nat.le_trans (Nat.add_le_add_left hm1 _) hB.1, Nat.le_trans (Nat.add_le_add_left hs1 _) hB.2⟩) (fun v6 S4 hf H locs cells slots hH hB => ?_)
      exact vx_ret (q_retI X hH hr hlk hf (Nat.le_trans (Nat.le_add_right _ _) hB.1) (Nat.le_trans (Nat.le_add_right _ _) hB.2) dX7_marry_29)
    · have hf := (if_neg c3).mp hf
      exact q_throw X hH hl hB rfl rfl hst (hGE _ _ _ X.2.2.2.2) hf tw_987 tw_108 (text := "the marriage is refused") (List.mem_of_getElem? (i := 4) rfl) xa_UnsupportedOperationException xg_UnsupportedOperationException (by decide +kernel) (by decide +kernel) dX7_marry_11 dX7_marry_14 dX7_marry_15 dX7_marry_17 dX7_marry_20 htab ⟨Nat.le_of_ble_eq_true rfl, Nat.le_of_ble_eq_true rfl⟩ (Nat.le_of_ble_eq_true rfl) hlk
  exact main s.heap [] ls 0 0 mc ms hf hH hl ⟨by omega, by omega⟩
-- X7_stand
def f_X7_stand (S : PS) (a0 : Nat) (a1 : Int32) (a2 : Int32) (bc bs : Nat) (post : Int32 → PS → Prop) (postX : String → PS → Prop) : Prop :=
  isO S a0 11 (
  f_X7_refuses S a0 5 a1 a2 0 fun v2 S1 => (
  if v2 = 0 then
    isO S1 a0 11 (
    ∃ mc5 ms5 : Nat, mc5 ≤ bc ∧ ms5 ≤ bs ∧ (f_X7_changed S1 a0 5 a1 a2 0 mc5 ms5 fun v6 S4 => (
    post v6 S4)))
  else
    tX S1 "java/lang/UnsupportedOperationException" bc bs postX))
abbrev rm_X7_stand (mc ms : Nat) : Room := { frames := 7, cells := mc, slots := ms, locals := 156 }
set_option maxHeartbeats 4000000 in
set_option maxRecDepth 100000 in
theorem c_X7_stand (l : Launch) (D : va_G) (cy : Nat → ClassId) (G : p_GT) (hG : p_ok G) (hst : l.stackTraces = false) (hGE : ∀ (A : Nat → Prop) (U : State) (H : Heap), G A U H → p_Ex A U H) (S : PS) (a0 : Nat) (a1 : Int32) (a2 : Int32) (mc ms : Nat) (post : Int32 → PS → Prop) (postX : String → PS → Prop) (sz : Nat) (hf : f_X7_stand S a0 a1 a2 mc ms post postX) : p_Xi l D cy G S sz yX7_stand (Cond.code yX7_stand cX7_stand 3 (some .int) :: wG) (rm_X7_stand mc ms) [.ref a0, .int a1, .int a2] mc ms post postX := by
  refine q_startX hG (Qc := fun A => va_Qi post (p_Post D cy A) A) (XC := fun A => p_XC D cy A postX) mf_X7_stand (Nat.le_of_ble_eq_true rfl) (own := RX7) rfl ?_
  intro p e s m below meth c A X hr hlk hnm htab ls hl hH
  have hx := X.1.1
  have hb := X.1.2.1
  replace hl : lv_has ls 3 [(0, .ref a0), (1, .int a1), (2, .int a2)] := hl
  have main : ∀ (H : Heap) (locs : List Loc) (ls : Array Slot) (cells slots bc bs : Nat), f_X7_stand S a0 a1 a2 bc bs post postX → p_H D cy S A s H locs → lv_has ls 3 [(0, .ref a0), (1, .int a1), (2, .int a2)] → cells + bc ≤ mc ∧ slots + bs ≤ ms → W p l e (rm_X7_stand mc ms) s m [.ref a0, .int a1, .int a2].toArray below meth c H locs cells slots (vx_MQ below (va_Qi post (p_Post D cy A) A) (p_XC D cy A postX) [.ref a0, .int a1, .int a2].toArray s mc ms A) (F0 m 0 ls []) := by
    intro H locs ls cells slots bc bs hf hH hl hB
    refine lv_aload_n hx hb dX7_stand_0 rfl (lv_at hl 0 rfl) ?_
    refine lv_iconst (v := 5) hx hb dX7_stand_1 (by decide) ?_
    refine lv_iload_n hx hb dX7_stand_2 rfl (lv_at hl 1 rfl) ?_
    refine lv_iload_n hx hb dX7_stand_3 rfl (lv_at hl 2 rfl) ?_
    refine lv_iconst (v := 0) hx hb dX7_stand_4 (by decide) ?_
    obtain ⟨hb1, hb2, hf⟩ := hf
    refine q_backI0 X hH (q_runV [.int 5, .int a1, .int a2, .int 0] [] X hH hl (c_X7_refuses l D cy G X.2.2.2.1 S a0 5 a1 a2 0 _ _ hf) mf_X7_refuses mv_X7_refuses tw_957 ⟨Nat.le_of_ble_eq_true rfl, Nat.le_of_ble_eq_true rfl⟩ hb1 hb2 (T := TX7) (N := 12) rfl rfl (Nat.le_of_ble_eq_true rfl) dX7_stand_5 ⟨Nat.le_trans (Nat.le_add_right _ _) hB.1, Nat.le_trans (Nat.le_add_right _ _) hB.2⟩) (fun v2 S1 hf H locs hH => ?_)
    refine lv_if_eq (tgt := 21) hx hb dX7_stand_8 (by decide) (fun c3 => ?_) (fun c3 => ?_)
    · have hf := (if_pos c3).mp hf
      refine lv_aload_n hx hb dX7_stand_21 rfl (lv_at hl 0 rfl) ?_
      refine lv_iconst (v := 5) hx hb dX7_stand_22 (by decide) ?_
      refine lv_iload_n hx hb dX7_stand_23 rfl (lv_at hl 1 rfl) ?_
      refine lv_iload_n hx hb dX7_stand_24 rfl (lv_at hl 2 rfl) ?_
      refine lv_iconst (v := 0) hx hb dX7_stand_25 (by decide) ?_
      obtain ⟨hb1, hb2, hf⟩ := hf
      obtain ⟨mc5, ms5, hm1, hs1, hf⟩ := hf
      refine q_backIB X hH hB hm1 hs1 (q_runV [.int 5, .int a1, .int a2, .int 0] [] X hH hl (c_X7_changed l D cy G X.2.2.2.1 S1 a0 5 a1 a2 0 mc5 ms5 _ _ hf) mf_X7_changed mv_X7_changed tw_1003 ⟨Nat.le_of_ble_eq_true rfl, Nat.le_of_ble_eq_true rfl⟩ hb1 hb2 (T := TX7) (N := 12) rfl rfl (Nat.le_of_ble_eq_true rfl) dX7_stand_26 ⟨Nat.le_trans (Nat.add_le_add_left hm1 _) hB.1, Nat.le_trans (Nat.add_le_add_left hs1 _) hB.2⟩) (fun v6 S4 hf H locs cells slots hH hB => ?_)
      exact vx_ret (q_retI X hH hr hlk hf (Nat.le_trans (Nat.le_add_right _ _) hB.1) (Nat.le_trans (Nat.le_add_right _ _) hB.2) dX7_stand_29)
    · have hf := (if_neg c3).mp hf
      exact q_throw X hH hl hB rfl rfl hst (hGE _ _ _ X.2.2.2.2) hf tw_987 tw_108 (text := "the side is refused") (List.mem_of_getElem? (i := 5) rfl) xa_UnsupportedOperationException xg_UnsupportedOperationException (by decide +kernel) (by decide +kernel) dX7_stand_11 dX7_stand_14 dX7_stand_15 dX7_stand_17 dX7_stand_20 htab ⟨Nat.le_of_ble_eq_true rfl, Nat.le_of_ble_eq_true rfl⟩ (Nat.le_of_ble_eq_true rfl) hlk
  exact main s.heap [] ls 0 0 mc ms hf hH hl ⟨by omega, by omega⟩
-- X7_part
def f_X7_part (S : PS) (a0 : Nat) (bc bs : Nat) (post : Int32 → PS → Prop) (postX : String → PS → Prop) : Prop :=
  isO S a0 11 (
  f_X7_refuses S a0 6 0 0 0 fun v2 S1 => (
  if v2 = 0 then
    isO S1 a0 11 (
    ∃ mc5 ms5 : Nat, mc5 ≤ bc ∧ ms5 ≤ bs ∧ (f_X7_changed S1 a0 6 0 0 0 mc5 ms5 fun v6 S4 => (
    post v6 S4)))
  else
    tX S1 "java/lang/UnsupportedOperationException" bc bs postX))
abbrev rm_X7_part (mc ms : Nat) : Room := { frames := 7, cells := mc, slots := ms, locals := 156 }
set_option maxHeartbeats 4000000 in
set_option maxRecDepth 100000 in
theorem c_X7_part (l : Launch) (D : va_G) (cy : Nat → ClassId) (G : p_GT) (hG : p_ok G) (hst : l.stackTraces = false) (hGE : ∀ (A : Nat → Prop) (U : State) (H : Heap), G A U H → p_Ex A U H) (S : PS) (a0 : Nat) (mc ms : Nat) (post : Int32 → PS → Prop) (postX : String → PS → Prop) (sz : Nat) (hf : f_X7_part S a0 mc ms post postX) : p_Xi l D cy G S sz yX7_part (Cond.code yX7_part cX7_part 1 (some .int) :: wG) (rm_X7_part mc ms) [.ref a0] mc ms post postX := by
  refine q_startX hG (Qc := fun A => va_Qi post (p_Post D cy A) A) (XC := fun A => p_XC D cy A postX) mf_X7_part (Nat.le_of_ble_eq_true rfl) (own := RX7) rfl ?_
  intro p e s m below meth c A X hr hlk hnm htab ls hl hH
  have hx := X.1.1
  have hb := X.1.2.1
  replace hl : lv_has ls 1 [(0, .ref a0)] := hl
  have main : ∀ (H : Heap) (locs : List Loc) (ls : Array Slot) (cells slots bc bs : Nat), f_X7_part S a0 bc bs post postX → p_H D cy S A s H locs → lv_has ls 1 [(0, .ref a0)] → cells + bc ≤ mc ∧ slots + bs ≤ ms → W p l e (rm_X7_part mc ms) s m [.ref a0].toArray below meth c H locs cells slots (vx_MQ below (va_Qi post (p_Post D cy A) A) (p_XC D cy A postX) [.ref a0].toArray s mc ms A) (F0 m 0 ls []) := by
    intro H locs ls cells slots bc bs hf hH hl hB
    refine lv_aload_n hx hb dX7_part_0 rfl (lv_at hl 0 rfl) ?_
    refine lv_bipush (v := 6) hx hb dX7_part_1 (by decide) ?_
    refine lv_iconst (v := 0) hx hb dX7_part_3 (by decide) ?_
    refine lv_iconst (v := 0) hx hb dX7_part_4 (by decide) ?_
    refine lv_iconst (v := 0) hx hb dX7_part_5 (by decide) ?_
    obtain ⟨hb1, hb2, hf⟩ := hf
    refine q_backI0 X hH (q_runV [.int 6, .int 0, .int 0, .int 0] [] X hH hl (c_X7_refuses l D cy G X.2.2.2.1 S a0 6 0 0 0 _ _ hf) mf_X7_refuses mv_X7_refuses tw_957 ⟨Nat.le_of_ble_eq_true rfl, Nat.le_of_ble_eq_true rfl⟩ hb1 hb2 (T := TX7) (N := 12) rfl rfl (Nat.le_of_ble_eq_true rfl) dX7_part_6 ⟨Nat.le_trans (Nat.le_add_right _ _) hB.1, Nat.le_trans (Nat.le_add_right _ _) hB.2⟩) (fun v2 S1 hf H locs hH => ?_)
    refine lv_if_eq (tgt := 22) hx hb dX7_part_9 (by decide) (fun c3 => ?_) (fun c3 => ?_)
    · have hf := (if_pos c3).mp hf
      refine lv_aload_n hx hb dX7_part_22 rfl (lv_at hl 0 rfl) ?_
      refine lv_bipush (v := 6) hx hb dX7_part_23 (by decide) ?_
      refine lv_iconst (v := 0) hx hb dX7_part_25 (by decide) ?_
      refine lv_iconst (v := 0) hx hb dX7_part_26 (by decide) ?_
      refine lv_iconst (v := 0) hx hb dX7_part_27 (by decide) ?_
      obtain ⟨hb1, hb2, hf⟩ := hf
      obtain ⟨mc5, ms5, hm1, hs1, hf⟩ := hf
      refine q_backIB X hH hB hm1 hs1 (q_runV [.int 6, .int 0, .int 0, .int 0] [] X hH hl (c_X7_changed l D cy G X.2.2.2.1 S1 a0 6 0 0 0 mc5 ms5 _ _ hf) mf_X7_changed mv_X7_changed tw_1003 ⟨Nat.le_of_ble_eq_true rfl, Nat.le_of_ble_eq_true rfl⟩ hb1 hb2 (T := TX7) (N := 12) rfl rfl (Nat.le_of_ble_eq_true rfl) dX7_part_28 ⟨Nat.le_trans (Nat.add_le_add_left hm1 _) hB.1, Nat.le_trans (Nat.add_le_add_left hs1 _) hB.2⟩) (fun v6 S4 hf H locs cells slots hH hB => ?_)
      exact vx_ret (q_retI X hH hr hlk hf (Nat.le_trans (Nat.le_add_right _ _) hB.1) (Nat.le_trans (Nat.le_add_right _ _) hB.2) dX7_part_31)
    · have hf := (if_neg c3).mp hf
      exact q_throw X hH hl hB rfl rfl hst (hGE _ _ _ X.2.2.2.2) hf tw_987 tw_108 (text := "there are fewer than two households") (List.mem_of_getElem? (i := 6) rfl) xa_UnsupportedOperationException xg_UnsupportedOperationException (by decide +kernel) (by decide +kernel) dX7_part_12 dX7_part_15 dX7_part_16 dX7_part_18 dX7_part_21 htab ⟨Nat.le_of_ble_eq_true rfl, Nat.le_of_ble_eq_true rfl⟩ (Nat.le_of_ble_eq_true rfl) hlk
  exact main s.heap [] ls 0 0 mc ms hf hH hl ⟨by omega, by omega⟩
