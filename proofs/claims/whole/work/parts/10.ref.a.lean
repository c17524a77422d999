-- X8_init
def f_X8_init (S : PS) (a0 : Nat) (bc bs : Nat) (post : PS → Prop) : Prop :=
  nA S 0 1128 bc bs fun q1 S2 bc3 bs4 => (
  pV S2 a0 12 1 (.ref q1) fun S5 => (
  nA S5 0 81 bc3 bs4 fun q6 S7 bc8 bs9 => (
  pV S7 a0 12 9 (.ref q6) fun S10 => (
  nA S10 0 81 bc8 bs9 fun q11 S12 bc13 bs14 => (
  pV S12 a0 12 10 (.ref q11) fun S15 => (
  nA S15 0 9 bc13 bs14 fun q16 S17 bc18 bs19 => (
  pV S17 a0 12 11 (.ref q16) fun S20 => (
  nA S20 0 9 bc18 bs19 fun q21 S22 bc23 bs24 => (
  pV S22 a0 12 12 (.ref q21) fun S25 => (
  nA S25 0 9 bc23 bs24 fun q26 S27 bc28 bs29 => (
  pV S27 a0 12 15 (.ref q26) fun S30 => (
  nA S30 2 60 bc28 bs29 fun q31 S32 bc33 bs34 => (
  pV S32 a0 12 16 (.ref q31) fun S35 => (
  pV S35 a0 12 20 (.int ((-1))) fun S36 => (
  nA S36 0 244 bc33 bs34 fun q37 S38 bc39 bs40 => (
  pV S38 a0 12 21 (.ref q37) fun S41 => (
  nA S41 2 500 bc39 bs40 fun q42 S43 bc44 bs45 => (
  pV S43 a0 12 23 (.ref q42) fun S46 => (
  post S46)))))))))))))))))))
abbrev rm_X8_init (mc ms : Nat) : Room := { frames := 1, cells := mc, slots := ms, locals := 20 }
set_option maxHeartbeats 4000000 in
set_option maxRecDepth 100000 in
theorem c_X8_init (l : Launch) (D : va_G) (cy : Nat → ClassId) (G : p_GT) (hG : p_ok G) (S : PS) (a0 : Nat) (mc ms : Nat) (post : PS → Prop) (sz : Nat) (hf : f_X8_init S a0 mc ms post) : p_Mv l D cy G S sz yX8_init (Cond.code yX8_init cX8_init 1 none :: wG) (rm_X8_init mc ms) [.ref a0] mc ms post := by
  refine q_start hG (Qc := fun A => va_Qv post (p_Post D cy A) A) mf_X8_init (Nat.le_of_ble_eq_true rfl) (own := RX8) rfl ?_
  intro p e s m below meth c A X hr hlk hnm ls hl hH
  have hx := X.1.1
  have hb := X.1.2.1
  replace hl : lv_has ls 1 [(0, .ref a0)] := hl
  have main : ∀ (H : Heap) (locs : List Loc) (ls : Array Slot) (cells slots bc bs : Nat), f_X8_init S a0 bc bs post → p_H D cy S A s H locs → lv_has ls 1 [(0, .ref a0)] → cells + bc ≤ mc ∧ slots + bs ≤ ms → W p l e (rm_X8_init mc ms) s m [.ref a0].toArray below meth c H locs cells slots (MQ below (va_Qv post (p_Post D cy A) A) [.ref a0].toArray s mc ms A) (F0 m 0 ls []) := by
    intro H locs ls cells slots bc bs hf hH hl hB
    refine lv_aload_n hx hb dX8_init_0 rfl (lv_at hl 0 rfl) ?_
    refine q_objInit X hl tw_1608 tw_130 tw_o ⟨Nat.le_of_ble_eq_true rfl, Nat.le_of_ble_eq_true rfl⟩ (Nat.le_of_ble_eq_true rfl) dX8_init_1 ?_
    refine lv_aload_n hx hb dX8_init_4 rfl (lv_at hl 0 rfl) ?_
    refine lv_sipush (v := 1128) hx hb dX8_init_5 (by decide) ?_
    refine q_newa (t := 0) (atype := .int) (ty := .int) X hH hB hf tw_164 rfl rfl (fun C h => by cases h) (fun N cA => rfl) (by decide) dX8_init_8 (fun q1 S2 bc3 bs4 hf H locs cells slots hH hB => ?_)
    refine q_putF (T := TX8) (N := 25) (ty0 := tyX8) (ty := tyX8 1) X hH hf iw_X8 tyX8_ok nmX8 rfl (by decide) tw_1610 (fun _ h => h) rfl hnm rfl (tyX8_ok 1 (by decide)) rfl rfl dX8_init_10 (fun S5 hf H locs hH => ?_)
    refine lv_aload_n hx hb dX8_init_13 rfl (lv_at hl 0 rfl) ?_
    refine lv_bipush (v := 81) hx hb dX8_init_14 (by decide) ?_
    refine q_newa (t := 0) (atype := .int) (ty := .int) X hH hB hf tw_164 rfl rfl (fun C h => by cases h) (fun N cA => rfl) (by decide) dX8_init_16 (fun q6 S7 bc8 bs9 hf H locs cells slots hH hB => ?_)
    refine q_putF (T := TX8) (N := 25) (ty0 := tyX8) (ty := tyX8 9) X hH hf iw_X8 tyX8_ok nmX8 rfl (by decide) tw_1618 (fun _ h => h) rfl hnm rfl (tyX8_ok 9 (by decide)) rfl rfl dX8_init_18 (fun S10 hf H locs hH => ?_)
    refine lv_aload_n hx hb dX8_init_21 rfl (lv_at hl 0 rfl) ?_
    refine lv_bipush (v := 81) hx hb dX8_init_22 (by decide) ?_
    refine q_newa (t := 0) (atype := .int) (ty := .int) X hH hB hf tw_164 rfl rfl (fun C h => by cases h) (fun N cA => rfl) (by decide) dX8_init_24 (fun q11 S12 bc13 bs14 hf H locs cells slots hH hB => ?_)
    refine q_putF (T := TX8) (N := 25) (ty0 := tyX8) (ty := tyX8 10) X hH hf iw_X8 tyX8_ok nmX8 rfl (by decide) tw_1619 (fun _ h => h) rfl hnm rfl (tyX8_ok 10 (by decide)) rfl rfl dX8_init_26 (fun S15 hf H locs hH => ?_)
    refine lv_aload_n hx hb dX8_init_29 rfl (lv_at hl 0 rfl) ?_
    refine lv_bipush (v := 9) hx hb dX8_init_30 (by decide) ?_
    refine q_newa (t := 0) (atype := .int) (ty := .int) X hH hB hf tw_164 rfl rfl (fun C h => by cases h) (fun N cA => rfl) (by decide) dX8_init_32 (fun q16 S17 bc18 bs19 hf H locs cells slots hH hB => ?_)
    refine q_putF (T := TX8) (N := 25) (ty0 := tyX8) (ty := tyX8 11) X hH hf iw_X8 tyX8_ok nmX8 rfl (by decide) tw_1620 (fun _ h => h) rfl hnm rfl (tyX8_ok 11 (by decide)) rfl rfl dX8_init_34 (fun S20 hf H locs hH => ?_)
    refine lv_aload_n hx hb dX8_init_37 rfl (lv_at hl 0 rfl) ?_
    refine lv_bipush (v := 9) hx hb dX8_init_38 (by decide) ?_
    refine q_newa (t := 0) (atype := .int) (ty := .int) X hH hB hf tw_164 rfl rfl (fun C h => by cases h) (fun N cA => rfl) (by decide) dX8_init_40 (fun q21 S22 bc23 bs24 hf H locs cells slots hH hB => ?_)
    refine q_putF (T := TX8) (N := 25) (ty0 := tyX8) (ty := tyX8 12) X hH hf iw_X8 tyX8_ok nmX8 rfl (by decide) tw_1621 (fun _ h => h) rfl hnm rfl (tyX8_ok 12 (by decide)) rfl rfl dX8_init_42 (fun S25 hf H locs hH => ?_)
    refine lv_aload_n hx hb dX8_init_45 rfl (lv_at hl 0 rfl) ?_
    refine lv_bipush (v := 9) hx hb dX8_init_46 (by decide) ?_
    refine q_newa (t := 0) (atype := .int) (ty := .int) X hH hB hf tw_164 rfl rfl (fun C h => by cases h) (fun N cA => rfl) (by decide) dX8_init_48 (fun q26 S27 bc28 bs29 hf H locs cells slots hH hB => ?_)
    refine q_putF (T := TX8) (N := 25) (ty0 := tyX8) (ty := tyX8 15) X hH hf iw_X8 tyX8_ok nmX8 rfl (by decide) tw_1624 (fun _ h => h) rfl hnm rfl (tyX8_ok 15 (by decide)) rfl rfl dX8_init_50 (fun S30 hf H locs hH => ?_)
    refine lv_aload_n hx hb dX8_init_53 rfl (lv_at hl 0 rfl) ?_
    refine lv_bipush (v := 60) hx hb dX8_init_54 (by decide) ?_
    refine q_newa (t := 2) (atype := .char) (ty := .char) X hH hB hf tw_1685 rfl rfl (fun C h => by cases h) (fun N cA => rfl) (by decide) dX8_init_56 (fun q31 S32 bc33 bs34 hf H locs cells slots hH hB => ?_)
    refine q_putF (T := TX8) (N := 25) (ty0 := tyX8) (ty := tyX8 16) X hH hf iw_X8 tyX8_ok nmX8 rfl (by decide) tw_1625 (fun _ h => h) rfl hnm rfl (tyX8_ok 16 (by decide)) rfl rfl dX8_init_58 (fun S35 hf H locs hH => ?_)
    refine lv_aload_n hx hb dX8_init_61 rfl (lv_at hl 0 rfl) ?_
    refine lv_iconst (v := (-1)) hx hb dX8_init_62 (by decide) ?_
    refine q_putV (T := TX8) (N := 25) (ty0 := tyX8) (ty := tyX8 20) X hH hf iw_X8 tyX8_ok nmX8 rfl (by decide) tw_1629 (fun _ h => h) rfl (tyX8_ok 20 (by decide)) rfl rfl dX8_init_63 (fun S36 hf H locs hH => ?_)
    refine lv_aload_n hx hb dX8_init_66 rfl (lv_at hl 0 rfl) ?_
    refine lv_sipush (v := 244) hx hb dX8_init_67 (by decide) ?_
    refine q_newa (t := 0) (atype := .int) (ty := .int) X hH hB hf tw_164 rfl rfl (fun C h => by cases h) (fun N cA => rfl) (by decide) dX8_init_70 (fun q37 S38 bc39 bs40 hf H locs cells slots hH hB => ?_)
    refine q_putF (T := TX8) (N := 25) (ty0 := tyX8) (ty := tyX8 21) X hH hf iw_X8 tyX8_ok nmX8 rfl (by decide) tw_1630 (fun _ h => h) rfl hnm rfl (tyX8_ok 21 (by decide)) rfl rfl dX8_init_72 (fun S41 hf H locs hH => ?_)
    refine lv_aload_n hx hb dX8_init_75 rfl (lv_at hl 0 rfl) ?_
    refine lv_sipush (v := 500) hx hb dX8_init_76 (by decide) ?_
    refine q_newa (t := 2) (atype := .char) (ty := .char) X hH hB hf tw_1685 rfl rfl (fun C h => by cases h) (fun N cA => rfl) (by decide) dX8_init_79 (fun q42 S43 bc44 bs45 hf H locs cells slots hH hB => ?_)
    refine q_putF (T := TX8) (N := 25) (ty0 := tyX8) (ty := tyX8 23) X hH hf iw_X8 tyX8_ok nmX8 rfl (by decide) tw_1632 (fun _ h => h) rfl hnm rfl (tyX8_ok 23 (by decide)) rfl rfl dX8_init_81 (fun S46 hf H locs hH => ?_)
    exact q_retV X hH hr hlk hf (Nat.le_trans (Nat.le_add_right _ _) hB.1) (Nat.le_trans (Nat.le_add_right _ _) hB.2) dX8_init_84
  exact main s.heap [] ls 0 0 mc ms hf hH hl ⟨by omega, by omega⟩
-- X8_thrown
def f_X8_thrown (S : PS) (a0 : Nat) (post : Int32 → PS → Prop) : Prop :=
  gI S a0 12 0 fun v1 => (
  post v1 S)
abbrev rm_X8_thrown : Room := { frames := 0, cells := 0, slots := 0, locals := 0 }
set_option maxHeartbeats 4000000 in
set_option maxRecDepth 100000 in
theorem c_X8_thrown (l : Launch) (D : va_G) (cy : Nat → ClassId) (G : p_GT) (hG : p_ok G) (S : PS) (a0 : Nat) (post : Int32 → PS → Prop) (sz : Nat) (hf : f_X8_thrown S a0 post) : p_Mi l D cy G S sz yX8_thrown (Cond.code yX8_thrown cX8_thrown 1 (some .int) :: wG) rm_X8_thrown [.ref a0] 0 0 post := by
  refine q_start hG (Qc := fun A => va_Qi post (p_Post D cy A) A) mf_X8_thrown (Nat.le_of_ble_eq_true rfl) (own := RX8) rfl ?_
  intro p e s m below meth c A X hr hlk hnm ls hl hH
  have hx := X.1.1
  have hb := X.1.2.1
  replace hl : lv_has ls 1 [(0, .ref a0)] := hl
  obtain ⟨H, hHe⟩ : ∃ H, H = s.heap := ⟨_, rfl⟩
  obtain ⟨locs, hlo⟩ : ∃ locs : List Loc, locs = [] := ⟨_, rfl⟩
  rw [← hHe, ← hlo] at hH
  show W p l e rm_X8_thrown s m [.ref a0].toArray below meth c s.heap [] 0 0 _ _
  rw [← hHe, ← hlo]
  refine lv_aload_n hx hb dX8_thrown_0 rfl (lv_at hl 0 rfl) ?_
  refine q_getI (T := TX8) (N := 25) X hH hf iw_X8 rfl (by decide) tw_1609 (fun _ h => h) dX8_thrown_1 (fun v1 hf => ?_)
  exact q_retI X hH hr hlk hf (Nat.zero_le _) (Nat.zero_le _) dX8_thrown_4
-- X8_in
def f_X8_in (S : PS) (a0 : Int32) (a1 : Int32) (a2 : Int32) (post : Int32 → PS → Prop) : Prop :=
  if a0 < a1 then
    nZ .boolean 0 (post 0 S)
  else
    if a2 < a0 then
      nZ .boolean 0 (post 0 S)
    else
      nZ .boolean 1 (post 1 S)
abbrev rm_X8_in : Room := { frames := 0, cells := 0, slots := 0, locals := 0 }
set_option maxHeartbeats 4000000 in
set_option maxRecDepth 100000 in
theorem c_X8_in (l : Launch) (D : va_G) (cy : Nat → ClassId) (G : p_GT) (hG : p_ok G) (S : PS) (a0 : Int32) (a1 : Int32) (a2 : Int32) (post : Int32 → PS → Prop) (sz : Nat) (hf : f_X8_in S a0 a1 a2 post) : p_Mi l D cy G S sz yX8_in (Cond.code yX8_in cX8_in 3 (some .boolean) :: wG) rm_X8_in [.int a0, .int a1, .int a2] 0 0 post := by
  refine q_start hG (Qc := fun A => va_Qi post (p_Post D cy A) A) mf_X8_in (Nat.le_of_ble_eq_true rfl) (own := RX8) rfl ?_
  intro p e s m below meth c A X hr hlk hnm ls hl hH
  have hx := X.1.1
  have hb := X.1.2.1
  replace hl : lv_has ls 3 [(0, .int a0), (1, .int a1), (2, .int a2)] := hl
  obtain ⟨H, hHe⟩ : ∃ H, H = s.heap := ⟨_, rfl⟩
  obtain ⟨locs, hlo⟩ : ∃ locs : List Loc, locs = [] := ⟨_, rfl⟩
  rw [← hHe, ← hlo] at hH
  show W p l e rm_X8_in s m [.int a0, .int a1, .int a2].toArray below meth c s.heap [] 0 0 _ _
  rw [← hHe, ← hlo]
  refine lv_iload_n hx hb dX8_in_0 rfl (lv_at hl 0 rfl) ?_
  refine lv_iload_n hx hb dX8_in_1 rfl (lv_at hl 1 rfl) ?_
  refine lv_icmp_lt (tgt := 14) hx hb dX8_in_2 (by decide) (fun c1 => ?_) (fun c1 => ?_)
  · have hf := (if_pos c1).mp hf
    refine lv_iconst (v := 0) hx hb dX8_in_14 (by decide) ?_
    exact q_retZ X hH hr hlk hf (Nat.zero_le _) (Nat.zero_le _) dX8_in_15
  · have hf := (if_neg c1).mp hf
    refine lv_iload_n hx hb dX8_in_5 rfl (lv_at hl 0 rfl) ?_
    refine lv_iload_n hx hb dX8_in_6 rfl (lv_at hl 2 rfl) ?_
    refine lv_icmp_gt (tgt := 14) hx hb dX8_in_7 (by decide) (fun c2 => ?_) (fun c2 => ?_)
    · have hf := (if_pos c2).mp hf
      refine lv_iconst (v := 0) hx hb dX8_in_14 (by decide) ?_
      exact q_retZ X hH hr hlk hf (Nat.zero_le _) (Nat.zero_le _) dX8_in_15
    · have hf := (if_neg c2).mp hf
      refine lv_iconst (v := 1) hx hb dX8_in_10 (by decide) ?_
      refine lv_goto (tgt := 15) hx hb dX8_in_11 (by decide) ?_
      exact q_retZ X hH hr hlk hf (Nat.zero_le _) (Nat.zero_le _) dX8_in_15
-- X8_copies
def f_X8_copies_L2 (post : PS → Prop) : Nat → PS → Nat → Int32 → Int32 → Int32 → Prop
  | 0, _, _, _, _, _ => False
  | n + 1, S, l0, l1, l2, l3 =>
  if 94 ≤ l3 then
    post S
  else
    gR S l0 12 1 fun v2 => (
    gR S l0 12 1 fun v3 => (
    aI S v3 0 (((94 : Int32) * l1) + l3) fun v4 => (
    sI S v2 0 (((94 : Int32) * l2) + l3) v4 fun S5 => (
    (f_X8_copies_L2 post n) S5 l0 l1 l2 (l3 + 1)))))
def f_X8_copies (S : PS) (a0 : Nat) (a1 : Int32) (a2 : Int32) (post : PS → Prop) : Prop :=
  f_X8_copies_L2 post 4096 S a0 a1 a2 0
abbrev rm_X8_copies : Room := { frames := 0, cells := 0, slots := 0, locals := 0 }
set_option maxHeartbeats 4000000 in
set_option maxRecDepth 100000 in
theorem c_X8_copies (l : Launch) (D : va_G) (cy : Nat → ClassId) (G : p_GT) (hG : p_ok G) (S : PS) (a0 : Nat) (a1 : Int32) (a2 : Int32) (post : PS → Prop) (sz : Nat) (hf : f_X8_copies S a0 a1 a2 post) : p_Mv l D cy G S sz yX8_copies (Cond.code yX8_copies cX8_copies 4 none :: wG) rm_X8_copies [.ref a0, .int a1, .int a2] 0 0 post := by
  refine q_start hG (Qc := fun A => va_Qv post (p_Post D cy A) A) mf_X8_copies (Nat.le_of_ble_eq_true rfl) (own := RX8) rfl ?_
  intro p e s m below meth c A X hr hlk hnm ls hl hH
  have hx := X.1.1
  have hb := X.1.2.1
  replace hl : lv_has ls 4 [(0, .ref a0), (1, .int a1), (2, .int a2)] := hl
  obtain ⟨H, hHe⟩ : ∃ H, H = s.heap := ⟨_, rfl⟩
  obtain ⟨locs, hlo⟩ : ∃ locs : List Loc, locs = [] := ⟨_, rfl⟩
  rw [← hHe, ← hlo] at hH
  show W p l e rm_X8_copies s m [.ref a0, .int a1, .int a2].toArray below meth c s.heap [] 0 0 _ _
  rw [← hHe, ← hlo]
  have hL2 : ∀ (n2 : Nat) (S : PS) (l0 : Nat) (l1 : Int32) (l2 : Int32) (l3 : Int32), f_X8_copies_L2 post n2 S l0 l1 l2 l3 → ∀ (H : Heap) (locs : List Loc) (ls : Array Slot), p_H D cy S A s H locs → lv_has ls 4 [(0, .ref l0), (1, .int l1), (2, .int l2), (3, .int l3)] → W p l e rm_X8_copies s m [.ref a0, .int a1, .int a2].toArray below meth c H locs 0 0 (MQ below (va_Qv post (p_Post D cy A) A) [.ref a0, .int a1, .int a2].toArray s 0 0 A) (F0 m 2 ls []) := by
    intro n2
    induction n2 with
    | zero => intro S l0 l1 l2 l3 hf; exact hf.elim
    | succ n2 ih2 =>
      intro S l0 l1 l2 l3 hf H locs ls hH hl
      refine lv_iload_n hx hb dX8_copies_2 rfl (lv_at hl 3 rfl) ?_
      refine lv_bipush (v := 94) hx hb dX8_copies_3 (by decide) ?_
      refine lv_icmp_ge (tgt := 36) hx hb dX8_copies_5 (by decide) (fun c1 => ?_) (fun c1 => ?_)
      · have hf := (if_pos c1).mp hf
        exact q_retV X hH hr hlk hf (Nat.zero_le _) (Nat.zero_le _) dX8_copies_36
      · have hf := (if_neg c1).mp hf
        refine lv_aload_n hx hb dX8_copies_8 rfl (lv_at hl 0 rfl) ?_
        refine q_getR (T := TX8) (N := 25) X hH hf iw_X8 rfl (by decide) tw_1610 (fun _ h => h) dX8_copies_9 (fun v2 hf => ?_)
        refine lv_bipush (v := 94) hx hb dX8_copies_12 (by decide) ?_
        refine lv_iload_n hx hb dX8_copies_14 rfl (lv_at hl 2 rfl) ?_
        refine lv_imul hx hb dX8_copies_15 ?_
        refine lv_iload_n hx hb dX8_copies_16 rfl (lv_at hl 3 rfl) ?_
        refine lv_iadd hx hb dX8_copies_17 ?_
        refine lv_aload_n hx hb dX8_copies_18 rfl (lv_at hl 0 rfl) ?_
        refine q_getR (T := TX8) (N := 25) X hH hf iw_X8 rfl (by decide) tw_1610 (fun _ h => h) dX8_copies_19 (fun v3 hf => ?_)
        refine lv_bipush (v := 94) hx hb dX8_copies_22 (by decide) ?_
        refine lv_iload_n hx hb dX8_copies_24 rfl (lv_at hl 1 rfl) ?_
        refine lv_imul hx hb dX8_copies_25 ?_
        refine lv_iload_n hx hb dX8_copies_26 rfl (lv_at hl 3 rfl) ?_
        refine lv_iadd hx hb dX8_copies_27 ?_
        refine q_iald X hH hf dX8_copies_28 (fun v4 hf => ?_)
        refine q_iast X hH hf dX8_copies_29 (fun S5 hf H locs hH => ?_)
        refine lv_iinc (v := l3 + 1) (lv' := [(3, .int (l3 + 1)), (0, .ref l0), (1, .int l1), (2, .int l2)]) hx hb dX8_copies_30 hl (k := 3) rfl rfl (by decide) rfl (fun ls hl => ?_)
        refine lv_goto (tgt := 2) hx hb dX8_copies_33 (by decide) ?_
        exact ih2 S5 l0 l1 l2 (l3 + 1) hf H locs ls hH (lv_sub hl [1, 2, 3, 0] rfl)
  refine lv_iconst (v := 0) hx hb dX8_copies_0 (by decide) ?_
  refine lv_istore_n (lv' := [(3, .int 0), (0, .ref a0), (1, .int a1), (2, .int a2)]) hx hb dX8_copies_1 rfl hl (by decide) rfl (fun ls hl => ?_)
  exact hL2 4096 S a0 a1 a2 0 hf H locs ls hH (lv_sub hl [1, 2, 3, 0] rfl)
-- X8_begins
def f_X8_begins (S : PS) (a0 : Nat) (post : PS → Prop) : Prop :=
  isO S a0 12 (
  f_X8_copies S a0 0 10 fun S1 => (
  post S1))
abbrev rm_X8_begins : Room := { frames := 1, cells := 0, slots := 0, locals := 23 }
set_option maxHeartbeats 4000000 in
set_option maxRecDepth 100000 in
theorem c_X8_begins (l : Launch) (D : va_G) (cy : Nat → ClassId) (G : p_GT) (hG : p_ok G) (S : PS) (a0 : Nat) (post : PS → Prop) (sz : Nat) (hf : f_X8_begins S a0 post) : p_Mv l D cy G S sz yX8_begins (Cond.code yX8_begins cX8_begins 1 none :: wG) rm_X8_begins [.ref a0] 0 0 post := by
  refine q_start hG (Qc := fun A => va_Qv post (p_Post D cy A) A) mf_X8_begins (Nat.le_of_ble_eq_true rfl) (own := RX8) rfl ?_
  intro p e s m below meth c A X hr hlk hnm ls hl hH
  have hx := X.1.1
  have hb := X.1.2.1
  replace hl : lv_has ls 1 [(0, .ref a0)] := hl
  obtain ⟨H, hHe⟩ : ∃ H, H = s.heap := ⟨_, rfl⟩
  obtain ⟨locs, hlo⟩ : ∃ locs : List Loc, locs = [] := ⟨_, rfl⟩
  rw [← hHe, ← hlo] at hH
  show W p l e rm_X8_begins s m [.ref a0].toArray below meth c s.heap [] 0 0 _ _
  rw [← hHe, ← hlo]
  refine lv_aload_n hx hb dX8_begins_0 rfl (lv_at hl 0 rfl) ?_
  refine lv_iconst (v := 0) hx hb dX8_begins_1 (by decide) ?_
  refine lv_bipush (v := 10) hx hb dX8_begins_2 (by decide) ?_
  obtain ⟨hb1, hb2, hf⟩ := hf
  refine q_backV0 X hH (q_runV [.int 0, .int 10] [] X hH hl (c_X8_copies l D cy G X.2.2.2.1 S a0 0 10 _ _ hf) mf_X8_copies mv_X8_copies tw_1705 ⟨Nat.le_of_ble_eq_true rfl, Nat.le_of_ble_eq_true rfl⟩ hb1 hb2 (T := TX8) (N := 25) rfl rfl (Nat.le_of_ble_eq_true rfl) dX8_begins_4 ⟨Nat.le_of_ble_eq_true rfl, Nat.le_of_ble_eq_true rfl⟩) (fun S1 hf H locs hH => ?_)
  exact q_retV X hH hr hlk hf (Nat.zero_le _) (Nat.zero_le _) dX8_begins_7
-- X8_ends
def f_X8_ends_J67 (post : Int32 → PS → Prop) (S : PS) (l0 : Nat) : Prop :=
  gI S l0 12 2 fun v1 => (
  pV S l0 12 2 (.int (v1 + 1)) fun S2 => (
  gI S2 l0 12 2 fun v3 => (
  isO S2 l0 12 (
  f_X8_copies S2 l0 10 v3 fun S4 => (
  gI S4 l0 12 4 fun v6 => (
  post v6 S4))))))
def f_X8_ends_J57 (post : Int32 → PS → Prop) (S : PS) (l0 : Nat) : Prop :=
  gI S l0 12 2 fun v1 => (
  pV S l0 12 2 (.int (v1 - 1)) fun S2 => (
  f_X8_ends_J67 post S2 l0))
def f_X8_ends_L37 (post : Int32 → PS → Prop) : Nat → PS → Nat → Int32 → Prop
  | 0, _, _, _ => False
  | n + 1, S, l0, l3 =>
  if 8 ≤ l3 then
    f_X8_ends_J57 post S l0
  else
    isO S l0 12 (
    f_X8_copies S l0 (l3 + 1) l3 fun S2 => (
    (f_X8_ends_L37 post n) S2 l0 (l3 + 1)))
def f_X8_ends_J10 (post : Int32 → PS → Prop) (S : PS) (l0 : Nat) (l1 : Int32) (t0 : Int32) (t1 : Nat) : Prop :=
  pV S t1 12 0 (.int t0) fun S1 => (
  if l1 = 0 then
    isO S1 l0 12 (
    f_X8_copies S1 l0 10 0 fun S5 => (
    post 0 S5))
  else
    gI S1 l0 12 2 fun v3 => (
    if v3 = 8 then
      f_X8_ends_L37 post 4096 S1 l0 1
    else
      f_X8_ends_J67 post S1 l0))
def f_X8_ends (S : PS) (a0 : Nat) (a1 : Int32) (a2 : Int32) (post : Int32 → PS → Prop) : Prop :=
  if a1 = 0 then
    f_X8_ends_J10 post S a0 a1 a2 a0
  else
    f_X8_ends_J10 post S a0 a1 0 a0
abbrev rm_X8_ends : Room := { frames := 1, cells := 0, slots := 0, locals := 23 }
set_option maxHeartbeats 4000000 in
set_option maxRecDepth 100000 in
theorem c_X8_ends (l : Launch) (D : va_G) (cy : Nat → ClassId) (G : p_GT) (hG : p_ok G) (S : PS) (a0 : Nat) (a1 : Int32) (a2 : Int32) (post : Int32 → PS → Prop) (sz : Nat) (hf : f_X8_ends S a0 a1 a2 post) : p_Mi l D cy G S sz yX8_ends (Cond.code yX8_ends cX8_ends 4 (some .int) :: wG) rm_X8_ends [.ref a0, .int a1, .int a2] 0 0 post := by
  refine q_start hG (Qc := fun A => va_Qi post (p_Post D cy A) A) mf_X8_ends (Nat.le_of_ble_eq_true rfl) (own := RX8) rfl ?_
  intro p e s m below meth c A X hr hlk hnm ls hl hH
  have hx := X.1.1
  have hb := X.1.2.1
  replace hl : lv_has ls 4 [(0, .ref a0), (1, .int a1), (2, .int a2)] := hl
  obtain ⟨H, hHe⟩ : ∃ H, H = s.heap := ⟨_, rfl⟩
  obtain ⟨locs, hlo⟩ : ∃ locs : List Loc, locs = [] := ⟨_, rfl⟩
  rw [← hHe, ← hlo] at hH
  show W p l e rm_X8_ends s m [.ref a0, .int a1, .int a2].toArray below meth c s.heap [] 0 0 _ _
  rw [← hHe, ← hlo]
  have hJ10 : ∀ (S : PS) (l0 : Nat) (l1 : Int32) (t0 : Int32) (t1 : Nat), f_X8_ends_J10 post S l0 l1 t0 t1 → ∀ (H : Heap) (locs : List Loc) (ls : Array Slot), p_H D cy S A s H locs → lv_has ls 4 [(0, .ref l0), (1, .int l1)] → W p l e rm_X8_ends s m [.ref a0, .int a1, .int a2].toArray below meth c H locs 0 0 (MQ below (va_Qi post (p_Post D cy A) A) [.ref a0, .int a1, .int a2].toArray s 0 0 A) (F0 m 10 ls [.int t0, .ref t1]) := by
    intro S l0 l1 t0 t1 hf H locs ls hH hl
    have hJ67 : ∀ (S : PS) (l0 : Nat), f_X8_ends_J67 post S l0 → ∀ (H : Heap) (locs : List Loc) (ls : Array Slot), p_H D cy S A s H locs → lv_has ls 4 [(0, .ref l0)] → W p l e rm_X8_ends s m [.ref a0, .int a1, .int a2].toArray below meth c H locs 0 0 (MQ below (va_Qi post (p_Post D cy A) A) [.ref a0, .int a1, .int a2].toArray s 0 0 A) (F0 m 67 ls []) := by
      intro S l0 hf H locs ls hH hl
      refine lv_aload_n hx hb dX8_ends_67 rfl (lv_at hl 0 rfl) ?_
      refine lv_dup hx hb dX8_ends_68 rfl ?_
      refine q_getI (T := TX8) (N := 25) X hH hf iw_X8 rfl (by decide) tw_1611 (fun _ h => h) dX8_ends_69 (fun v1 hf => ?_)
      refine lv_iconst (v := 1) hx hb dX8_ends_72 (by decide) ?_
      refine lv_iadd hx hb dX8_ends_73 ?_
      refine q_putV (T := TX8) (N := 25) (ty0 := tyX8) (ty := tyX8 2) X hH hf iw_X8 tyX8_ok nmX8 rfl (by decide) tw_1611 (fun _ h => h) rfl (tyX8_ok 2 (by decide)) rfl rfl dX8_ends_74 (fun S2 hf H locs hH => ?_)
      refine lv_aload_n hx hb dX8_ends_77 rfl (lv_at hl 0 rfl) ?_
      refine lv_bipush (v := 10) hx hb dX8_ends_78 (by decide) ?_
      refine lv_aload_n hx hb dX8_ends_80 rfl (lv_at hl 0 rfl) ?_
      refine q_getI (T := TX8) (N := 25) X hH hf iw_X8 rfl (by decide) tw_1611 (fun _ h => h) dX8_ends_81 (fun v3 hf => ?_)
      obtain ⟨hb1, hb2, hf⟩ := hf
      refine q_backV0 X hH (q_runV [.int 10, .int v3] [] X hH hl (c_X8_copies l D cy G X.2.2.2.1 S2 l0 10 v3 _ _ hf) mf_X8_copies mv_X8_copies tw_1705 ⟨Nat.le_of_ble_eq_true rfl, Nat.le_of_ble_eq_true rfl⟩ hb1 hb2 (T := TX8) (N := 25) rfl rfl (Nat.le_of_ble_eq_true rfl) dX8_ends_84 ⟨Nat.le_of_ble_eq_true rfl, Nat.le_of_ble_eq_true rfl⟩) (fun S4 hf H locs hH => ?_)
      refine lv_aload_n hx hb dX8_ends_87 rfl (lv_at hl 0 rfl) ?_
      refine q_getI (T := TX8) (N := 25) X hH hf iw_X8 rfl (by decide) tw_1613 (fun _ h => h) dX8_ends_88 (fun v6 hf => ?_)
      exact q_retI X hH hr hlk hf (Nat.zero_le _) (Nat.zero_le _) dX8_ends_91
    have hL37 : ∀ (n37 : Nat) (S : PS) (l0 : Nat) (l3 : Int32), f_X8_ends_L37 post n37 S l0 l3 → ∀ (H : Heap) (locs : List Loc) (ls : Array Slot), p_H D cy S A s H locs → lv_has ls 4 [(0, .ref l0), (3, .int l3)] → W p l e rm_X8_ends s m [.ref a0, .int a1, .int a2].toArray below meth c H locs 0 0 (MQ below (va_Qi post (p_Post D cy A) A) [.ref a0, .int a1, .int a2].toArray s 0 0 A) (F0 m 37 ls []) := by
      intro n37
      induction n37 with
      | zero => intro S l0 l3 hf; exact hf.elim
      | succ n37 ih37 =>
        intro S l0 l3 hf H locs ls hH hl
        have hJ57 : ∀ (S : PS) (l0 : Nat), f_X8_ends_J57 post S l0 → ∀ (H : Heap) (locs : List Loc) (ls : Array Slot), p_H D cy S A s H locs → lv_has ls 4 [(0, .ref l0)] → W p l e rm_X8_ends s m [.ref a0, .int a1, .int a2].toArray below meth c H locs 0 0 (MQ below (va_Qi post (p_Post D cy A) A) [.ref a0, .int a1, .int a2].toArray s 0 0 A) (F0 m 57 ls []) := by
          intro S l0 hf H locs ls hH hl
          refine lv_aload_n hx hb dX8_ends_57 rfl (lv_at hl 0 rfl) ?_
          refine lv_dup hx hb dX8_ends_58 rfl ?_
          refine q_getI (T := TX8) (N := 25) X hH hf iw_X8 rfl (by decide) tw_1611 (fun _ h => h) dX8_ends_59 (fun v1 hf => ?_)
          refine lv_iconst (v := 1) hx hb dX8_ends_62 (by decide) ?_
          refine lv_isub hx hb dX8_ends_63 ?_
          refine q_putV (T := TX8) (N := 25) (ty0 := tyX8) (ty := tyX8 2) X hH hf iw_X8 tyX8_ok nmX8 rfl (by decide) tw_1611 (fun _ h => h) rfl (tyX8_ok 2 (by decide)) rfl rfl dX8_ends_64 (fun S2 hf H locs hH => ?_)
          exact hJ67 S2 l0 hf H locs ls hH hl
        refine lv_iload_n hx hb dX8_ends_37 rfl (lv_at hl 1 rfl) ?_
        refine lv_bipush (v := 8) hx hb dX8_ends_38 (by decide) ?_
        refine lv_icmp_ge (tgt := 57) hx hb dX8_ends_40 (by decide) (fun c1 => ?_) (fun c1 => ?_)
        · have hf := (if_pos c1).mp hf
          exact hJ57 S l0 hf H locs ls hH (lv_sub hl [0] rfl)
        · have hf := (if_neg c1).mp hf
          refine lv_aload_n hx hb dX8_ends_43 rfl (lv_at hl 0 rfl) ?_
          refine lv_iload_n hx hb dX8_ends_44 rfl (lv_at hl 1 rfl) ?_
          refine lv_iconst (v := 1) hx hb dX8_ends_45 (by decide) ?_
          refine lv_iadd hx hb dX8_ends_46 ?_
          refine lv_iload_n hx hb dX8_ends_47 rfl (lv_at hl 1 rfl) ?_
          obtain ⟨hb1, hb2, hf⟩ := hf
          refine q_backV0 X hH (q_runV [.int (l3 + 1), .int l3] [] X hH hl (c_X8_copies l D cy G X.2.2.2.1 S l0 (l3 + 1) l3 _ _ hf) mf_X8_copies mv_X8_copies tw_1705 ⟨Nat.le_of_ble_eq_true rfl, Nat.le_of_ble_eq_true rfl⟩ hb1 hb2 (T := TX8) (N := 25) rfl rfl (Nat.le_of_ble_eq_true rfl) dX8_ends_48 ⟨Nat.le_of_ble_eq_true rfl, Nat.le_of_ble_eq_true rfl⟩) (fun S2 hf H locs hH => ?_)
          refine lv_iinc (v := l3 + 1) (lv' := [(3, .int (l3 + 1)), (0, .ref l0)]) hx hb dX8_ends_51 hl (k := 1) rfl rfl (by decide) rfl (fun ls hl => ?_)
          refine lv_goto (tgt := 37) hx hb dX8_ends_54 (by decide) ?_
          exact ih37 S2 l0 (l3 + 1) hf H locs ls hH (lv_sub hl [1, 0] rfl)
    refine q_putV (T := TX8) (N := 25) (ty0 := tyX8) (ty := tyX8 0) X hH hf iw_X8 tyX8_ok nmX8 rfl (by decide) tw_1609 (fun _ h => h) rfl (tyX8_ok 0 (by decide)) rfl rfl dX8_ends_10 (fun S1 hf H locs hH => ?_)
    refine lv_iload_n hx hb dX8_ends_13 rfl (lv_at hl 1 rfl) ?_
    refine lv_if_ne (tgt := 26) hx hb dX8_ends_14 (by decide) (fun c2 => ?_) (fun c2 => ?_)
    · have hf := (if_neg c2).mp hf
      refine lv_aload_n hx hb dX8_ends_26 rfl (lv_at hl 0 rfl) ?_
      refine q_getI (T := TX8) (N := 25) X hH hf iw_X8 rfl (by decide) tw_1611 (fun _ h => h) dX8_ends_27 (fun v3 hf => ?_)
      refine lv_bipush (v := 8) hx hb dX8_ends_30 (by decide) ?_
      refine lv_icmp_ne (tgt := 67) hx hb dX8_ends_32 (by decide) (fun c4 => ?_) (fun c4 => ?_)
      · have hf := (if_neg c4).mp hf
        exact hJ67 S1 l0 hf H locs ls hH (lv_sub hl [0] rfl)
      · have hf := (if_pos c4).mp hf
        refine lv_iconst (v := 1) hx hb dX8_ends_35 (by decide) ?_
        refine lv_istore_n (lv' := [(3, .int 1), (0, .ref l0), (1, .int l1)]) hx hb dX8_ends_36 rfl hl (by decide) rfl (fun ls hl => ?_)
        exact hL37 4096 S1 l0 1 hf H locs ls hH (lv_sub hl [1, 0] rfl)
    · have hf := (if_pos c2).mp hf
      refine lv_aload_n hx hb dX8_ends_17 rfl (lv_at hl 0 rfl) ?_
      refine lv_bipush (v := 10) hx hb dX8_ends_18 (by decide) ?_
      refine lv_iconst (v := 0) hx hb dX8_ends_20 (by decide) ?_
      obtain ⟨hb1, hb2, hf⟩ := hf
      refine q_backV0 X hH (q_runV [.int 10, .int 0] [] X hH hl (c_X8_copies l D cy G X.2.2.2.1 S1 l0 10 0 _ _ hf) mf_X8_copies mv_X8_copies tw_1705 ⟨Nat.le_of_ble_eq_true rfl, Nat.le_of_ble_eq_true rfl⟩ hb1 hb2 (T := TX8) (N := 25) rfl rfl (Nat.le_of_ble_eq_true rfl) dX8_ends_21 ⟨Nat.le_of_ble_eq_true rfl, Nat.le_of_ble_eq_true rfl⟩) (fun S5 hf H locs hH => ?_)
      refine lv_iconst (v := 0) hx hb dX8_ends_24 (by decide) ?_
      exact q_retI X hH hr hlk hf (Nat.zero_le _) (Nat.zero_le _) dX8_ends_25
  refine lv_aload_n hx hb dX8_ends_0 rfl (lv_at hl 0 rfl) ?_
  refine lv_iload_n hx hb dX8_ends_1 rfl (lv_at hl 1 rfl) ?_
  refine lv_if_eq (tgt := 9) hx hb dX8_ends_2 (by decide) (fun c1 => ?_) (fun c1 => ?_)
  · have hf := (if_pos c1).mp hf
    refine lv_iload_n hx hb dX8_ends_9 rfl (lv_at hl 2 rfl) ?_
    exact hJ10 S a0 a1 a2 a0 hf H locs ls hH (lv_sub hl [0, 1] rfl)
  · have hf := (if_neg c1).mp hf
    refine lv_iconst (v := 0) hx hb dX8_ends_5 (by decide) ?_
    refine lv_goto (tgt := 10) hx hb dX8_ends_6 (by decide) ?_
    exact hJ10 S a0 a1 0 a0 hf H locs ls hH (lv_sub hl [0, 1] rfl)
-- X8_refuses
def f_X8_refuses (S : PS) (a0 : Nat) (a1 : Int32) (a2 : Int32) (a3 : Int32) (post : Int32 → PS → Prop) : Prop :=
  if a1 = 0 then
    nZ .boolean a1 (post a1 S)
  else
    pV S a0 12 5 (.int a2) fun S2 => (
    pV S2 a0 12 6 (.int a3) fun S3 => (
    pV S3 a0 12 7 (.int 0) fun S4 => (
    nZ .boolean a1 (post a1 S4))))
abbrev rm_X8_refuses : Room := { frames := 0, cells := 0, slots := 0, locals := 0 }
set_option maxHeartbeats 4000000 in
set_option maxRecDepth 100000 in
theorem c_X8_refuses (l : Launch) (D : va_G) (cy : Nat → ClassId) (G : p_GT) (hG : p_ok G) (S : PS) (a0 : Nat) (a1 : Int32) (a2 : Int32) (a3 : Int32) (post : Int32 → PS → Prop) (sz : Nat) (hf : f_X8_refuses S a0 a1 a2 a3 post) : p_Mi l D cy G S sz yX8_refuses (Cond.code yX8_refuses cX8_refuses 4 (some .boolean) :: wG) rm_X8_refuses [.ref a0, .int a1, .int a2, .int a3] 0 0 post := by
  refine q_start hG (Qc := fun A => va_Qi post (p_Post D cy A) A) mf_X8_refuses (Nat.le_of_ble_eq_true rfl) (own := RX8) rfl ?_
  intro p e s m below meth c A X hr hlk hnm ls hl hH
  have hx := X.1.1
  have hb := X.1.2.1
  replace hl : lv_has ls 4 [(0, .ref a0), (1, .int a1), (2, .int a2), (3, .int a3)] := hl
  obtain ⟨H, hHe⟩ : ∃ H, H = s.heap := ⟨_, rfl⟩
  obtain ⟨locs, hlo⟩ : ∃ locs : List Loc, locs = [] := ⟨_, rfl⟩
  rw [← hHe, ← hlo] at hH
  show W p l e rm_X8_refuses s m [.ref a0, .int a1, .int a2, .int a3].toArray below meth c s.heap [] 0 0 _ _
  rw [← hHe, ← hlo]
  refine lv_iload_n hx hb dX8_refuses_0 rfl (lv_at hl 1 rfl) ?_
  refine lv_if_eq (tgt := 19) hx hb dX8_refuses_1 (by decide) (fun c1 => ?_) (fun c1 => ?_)
  · have hf := (if_pos c1).mp hf
    refine lv_iload_n hx hb dX8_refuses_19 rfl (lv_at hl 1 rfl) ?_
    exact q_retZ X hH hr hlk hf (Nat.zero_le _) (Nat.zero_le _) dX8_refuses_20
  · have hf := (if_neg c1).mp hf
    refine lv_aload_n hx hb dX8_refuses_4 rfl (lv_at hl 0 rfl) ?_
    refine lv_iload_n hx hb dX8_refuses_5 rfl (lv_at hl 2 rfl) ?_
    refine q_putV (T := TX8) (N := 25) (ty0 := tyX8) (ty := tyX8 5) X hH hf iw_X8 tyX8_ok nmX8 rfl (by decide) tw_1614 (fun _ h => h) rfl (tyX8_ok 5 (by decide)) rfl rfl dX8_refuses_6 (fun S2 hf H locs hH => ?_)
    refine lv_aload_n hx hb dX8_refuses_9 rfl (lv_at hl 0 rfl) ?_
    refine lv_iload_n hx hb dX8_refuses_10 rfl (lv_at hl 3 rfl) ?_
    refine q_putV (T := TX8) (N := 25) (ty0 := tyX8) (ty := tyX8 6) X hH hf iw_X8 tyX8_ok nmX8 rfl (by decide) tw_1615 (fun _ h => h) rfl (tyX8_ok 6 (by decide)) rfl rfl dX8_refuses_11 (fun S3 hf H locs hH => ?_)
    refine lv_aload_n hx hb dX8_refuses_14 rfl (lv_at hl 0 rfl) ?_
    refine lv_iconst (v := 0) hx hb dX8_refuses_15 (by decide) ?_
    refine q_putV (T := TX8) (N := 25) (ty0 := tyX8) (ty := tyX8 7) X hH hf iw_X8 tyX8_ok nmX8 rfl (by decide) tw_1616 (fun _ h => h) rfl (tyX8_ok 7 (by decide)) rfl rfl dX8_refuses_16 (fun S4 hf H locs hH => ?_)
    refine lv_iload_n hx hb dX8_refuses_19 rfl (lv_at hl 1 rfl) ?_
    exact q_retZ X hH hr hlk hf (Nat.zero_le _) (Nat.zero_le _) dX8_refuses_20
-- X8_isThere
def f_X8_isThere (S : PS) (a0 : Nat) (a1 : Int32) (post : Int32 → PS → Prop) : Prop :=
  if a1 = 0 then
    pV S a0 12 0 (.int 1) fun S2 => (
    nZ .boolean a1 (post a1 S2))
  else
    pV S a0 12 0 (.int 0) fun S3 => (
    nZ .boolean a1 (post a1 S3))
abbrev rm_X8_isThere : Room := { frames := 0, cells := 0, slots := 0, locals := 0 }
set_option maxHeartbeats 4000000 in
set_option maxRecDepth 100000 in
theorem c_X8_isThere (l : Launch) (D : va_G) (cy : Nat → ClassId) (G : p_GT) (hG : p_ok G) (S : PS) (a0 : Nat) (a1 : Int32) (post : Int32 → PS → Prop) (sz : Nat) (hf : f_X8_isThere S a0 a1 post) : p_Mi l D cy G S sz yX8_isThere (Cond.code yX8_isThere cX8_isThere 2 (some .boolean) :: wG) rm_X8_isThere [.ref a0, .int a1] 0 0 post := by
  refine q_start hG (Qc := fun A => va_Qi post (p_Post D cy A) A) mf_X8_isThere (Nat.le_of_ble_eq_true rfl) (own := RX8) rfl ?_
  intro p e s m below meth c A X hr hlk hnm ls hl hH
  have hx := X.1.1
  have hb := X.1.2.1
  replace hl : lv_has ls 2 [(0, .ref a0), (1, .int a1)] := hl
  obtain ⟨H, hHe⟩ : ∃ H, H = s.heap := ⟨_, rfl⟩
  obtain ⟨locs, hlo⟩ : ∃ locs : List Loc, locs = [] := ⟨_, rfl⟩
  rw [← hHe, ← hlo] at hH
  show W p l e rm_X8_isThere s m [.ref a0, .int a1].toArray below meth c s.heap [] 0 0 _ _
  rw [← hHe, ← hlo]
  refine lv_aload_n hx hb dX8_isThere_0 rfl (lv_at hl 0 rfl) ?_
  refine lv_iload_n hx hb dX8_isThere_1 rfl (lv_at hl 1 rfl) ?_
  refine lv_if_eq (tgt := 9) hx hb dX8_isThere_2 (by decide) (fun c1 => ?_) (fun c1 => ?_)
  · have hf := (if_pos c1).mp hf
    refine lv_iconst (v := 1) hx hb dX8_isThere_9 (by decide) ?_
    refine q_putV (T := TX8) (N := 25) (ty0 := tyX8) (ty := tyX8 0) X hH hf iw_X8 tyX8_ok nmX8 rfl (by decide) tw_1609 (fun _ h => h) rfl (tyX8_ok 0 (by decide)) rfl rfl dX8_isThere_10 (fun S2 hf H locs hH => ?_)
    refine lv_iload_n hx hb dX8_isThere_13 rfl (lv_at hl 1 rfl) ?_
    exact q_retZ X hH hr hlk hf (Nat.zero_le _) (Nat.zero_le _) dX8_isThere_14
  · have hf := (if_neg c1).mp hf
    refine lv_iconst (v := 0) hx hb dX8_isThere_5 (by decide) ?_
    refine lv_goto (tgt := 10) hx hb dX8_isThere_6 (by decide) ?_
    refine q_putV (T := TX8) (N := 25) (ty0 := tyX8) (ty := tyX8 0) X hH hf iw_X8 tyX8_ok nmX8 rfl (by decide) tw_1609 (fun _ h => h) rfl (tyX8_ok 0 (by decide)) rfl rfl dX8_isThere_10 (fun S3 hf H locs hH => ?_)
    refine lv_iload_n hx hb dX8_isThere_13 rfl (lv_at hl 1 rfl) ?_
    exact q_retZ X hH hr hlk hf (Nat.zero_le _) (Nat.zero_le _) dX8_isThere_14
-- X8_reason
def f_X8_reason_J37 (post : Int32 → PS → Prop) (S : PS) (l0 : Nat) (l1 : Int32) (l2 : Int32) (t0 : Int32) (t1 : Nat) : Prop :=
  pV S t1 12 0 (.int t0) fun S1 => (
  gI S1 l0 12 0 fun v2 => (
  if v2 = 0 then
    if l1 = 0 then
      if l2 = 0 then
        gI S1 l0 12 5 fun v9 => (
        post v9 S1)
      else
        gI S1 l0 12 6 fun v10 => (
        post v10 S1)
    else
      if l2 = 0 then
        gI S1 l0 12 7 fun v6 => (
        post v6 S1)
      else
        gI S1 l0 12 8 fun v7 => (
        post v7 S1)
  else
    post 0 S1))
def f_X8_reason_J29 (post : Int32 → PS → Prop) (S : PS) (l0 : Nat) (l1 : Int32) (l2 : Int32) (t0 : Int32) (t1 : Nat) : Prop :=
  if t0 = 0 then
    f_X8_reason_J37 post S l0 l1 l2 2 t1
  else
    f_X8_reason_J37 post S l0 l1 l2 0 t1
def f_X8_reason (S : PS) (a0 : Nat) (a1 : Int32) (a2 : Int32) (post : Int32 → PS → Prop) : Prop :=
  f_X8_in S a1 0 1 fun v2 S1 => (
  if v2 = 0 then
    f_X8_reason_J37 post S1 a0 a1 a2 1 a0
  else
    if a1 = 0 then
      gI S1 a0 12 5 fun v6 => (
      f_X8_reason_J29 post S1 a0 a1 a2 v6 a0)
    else
      gI S1 a0 12 7 fun v5 => (
      f_X8_reason_J29 post S1 a0 a1 a2 v5 a0))
abbrev rm_X8_reason : Room := { frames := 1, cells := 0, slots := 0, locals := 22 }
set_option maxHeartbeats 4000000 in
set_option maxRecDepth 100000 in
theorem c_X8_reason (l : Launch) (D : va_G) (cy : Nat → ClassId) (G : p_GT) (hG : p_ok G) (S : PS) (a0 : Nat) (a1 : Int32) (a2 : Int32) (post : Int32 → PS → Prop) (sz : Nat) (hf : f_X8_reason S a0 a1 a2 post) : p_Mi l D cy G S sz yX8_reason (Cond.code yX8_reason cX8_reason 3 (some .int) :: wG) rm_X8_reason [.ref a0, .int a1, .int a2] 0 0 post := by
  refine q_start hG (Qc := fun A => va_Qi post (p_Post D cy A) A) mf_X8_reason (Nat.le_of_ble_eq_true rfl) (own := RX8) rfl ?_
  intro p e s m below meth c A X hr hlk hnm ls hl hH
  have hx := X.1.1
  have hb := X.1.2.1
  replace hl : lv_has ls 3 [(0, .ref a0), (1, .int a1), (2, .int a2)] := hl
  obtain ⟨H, hHe⟩ : ∃ H, H = s.heap := ⟨_, rfl⟩
  obtain ⟨locs, hlo⟩ : ∃ locs : List Loc, locs = [] := ⟨_, rfl⟩
  rw [← hHe, ← hlo] at hH
  show W p l e rm_X8_reason s m [.ref a0, .int a1, .int a2].toArray below meth c s.heap [] 0 0 _ _
  rw [← hHe, ← hlo]
  have hJ37 : ∀ (S : PS) (l0 : Nat) (l1 : Int32) (l2 : Int32) (t0 : Int32) (t1 : Nat), f_X8_reason_J37 post S l0 l1 l2 t0 t1 → ∀ (H : Heap) (locs : List Loc) (ls : Array Slot), p_H D cy S A s H locs → lv_has ls 3 [(0, .ref l0), (1, .int l1), (2, .int l2)] → W p l e rm_X8_reason s m [.ref a0, .int a1, .int a2].toArray below meth c H locs 0 0 (MQ below (va_Qi post (p_Post D cy A) A) [.ref a0, .int a1, .int a2].toArray s 0 0 A) (F0 m 37 ls [.int t0, .ref t1]) := by
    intro S l0 l1 l2 t0 t1 hf H locs ls hH hl
    refine q_putV (T := TX8) (N := 25) (ty0 := tyX8) (ty := tyX8 0) X hH hf iw_X8 tyX8_ok nmX8 rfl (by decide) tw_1609 (fun _ h => h) rfl (tyX8_ok 0 (by decide)) rfl rfl dX8_reason_37 (fun S1 hf H locs hH => ?_)
    refine lv_aload_n hx hb dX8_reason_40 rfl (lv_at hl 0 rfl) ?_
    refine q_getI (T := TX8) (N := 25) X hH hf iw_X8 rfl (by decide) tw_1609 (fun _ h => h) dX8_reason_41 (fun v2 hf => ?_)
    refine lv_if_eq (tgt := 49) hx hb dX8_reason_44 (by decide) (fun c3 => ?_) (fun c3 => ?_)
    · have hf := (if_pos c3).mp hf
      refine lv_iload_n hx hb dX8_reason_49 rfl (lv_at hl 1 rfl) ?_
      refine lv_if_ne (tgt := 71) hx hb dX8_reason_50 (by decide) (fun c4 => ?_) (fun c4 => ?_)
      · have hf := (if_neg c4).mp hf
        refine lv_iload_n hx hb dX8_reason_71 rfl (lv_at hl 2 rfl) ?_
        refine lv_if_eq (tgt := 82) hx hb dX8_reason_72 (by decide) (fun c5 => ?_) (fun c5 => ?_)
        · have hf := (if_pos c5).mp hf
          refine lv_aload_n hx hb dX8_reason_82 rfl (lv_at hl 0 rfl) ?_
          refine q_getI (T := TX8) (N := 25) X hH hf iw_X8 rfl (by decide) tw_1616 (fun _ h => h) dX8_reason_83 (fun v6 hf => ?_)
          exact q_retI X hH hr hlk hf (Nat.zero_le _) (Nat.zero_le _) dX8_reason_86
        · have hf := (if_neg c5).mp hf
          refine lv_aload_n hx hb dX8_reason_75 rfl (lv_at hl 0 rfl) ?_
          refine q_getI (T := TX8) (N := 25) X hH hf iw_X8 rfl (by decide) tw_1617 (fun _ h => h) dX8_reason_76 (fun v7 hf => ?_)
          refine lv_goto (tgt := 86) hx hb dX8_reason_79 (by decide) ?_
          exact q_retI X hH hr hlk hf (Nat.zero_le _) (Nat.zero_le _) dX8_reason_86
      · have hf := (if_pos c4).mp hf
        refine lv_iload_n hx hb dX8_reason_53 rfl (lv_at hl 2 rfl) ?_
        refine lv_if_eq (tgt := 64) hx hb dX8_reason_54 (by decide) (fun c8 => ?_) (fun c8 => ?_)
        · have hf := (if_pos c8).mp hf
          refine lv_aload_n hx hb dX8_reason_64 rfl (lv_at hl 0 rfl) ?_
          refine q_getI (T := TX8) (N := 25) X hH hf iw_X8 rfl (by decide) tw_1614 (fun _ h => h) dX8_reason_65 (fun v9 hf => ?_)
          refine lv_goto (tgt := 86) hx hb dX8_reason_68 (by decide) ?_
          exact q_retI X hH hr hlk hf (Nat.zero_le _) (Nat.zero_le _) dX8_reason_86
        · have hf := (if_neg c8).mp hf
          refine lv_aload_n hx hb dX8_reason_57 rfl (lv_at hl 0 rfl) ?_
          refine q_getI (T := TX8) (N := 25) X hH hf iw_X8 rfl (by decide) tw_1615 (fun _ h => h) dX8_reason_58 (fun v10 hf => ?_)
          refine lv_goto (tgt := 86) hx hb dX8_reason_61 (by decide) ?_
          exact q_retI X hH hr hlk hf (Nat.zero_le _) (Nat.zero_le _) dX8_reason_86
    · have hf := (if_neg c3).mp hf
      refine lv_iconst (v := 0) hx hb dX8_reason_47 (by decide) ?_
      exact q_retI X hH hr hlk hf (Nat.zero_le _) (Nat.zero_le _) dX8_reason_48
  have hJ29 : ∀ (S : PS) (l0 : Nat) (l1 : Int32) (l2 : Int32) (t0 : Int32) (t1 : Nat), f_X8_reason_J29 post S l0 l1 l2 t0 t1 → ∀ (H : Heap) (locs : List Loc) (ls : Array Slot), p_H D cy S A s H locs → lv_has ls 3 [(0, .ref l0), (1, .int l1), (2, .int l2)] → W p l e rm_X8_reason s m [.ref a0, .int a1, .int a2].toArray below meth c H locs 0 0 (MQ below (va_Qi post (p_Post D cy A) A) [.ref a0, .int a1, .int a2].toArray s 0 0 A) (F0 m 29 ls [.int t0, .ref t1]) := by
    intro S l0 l1 l2 t0 t1 hf H locs ls hH hl
    refine lv_if_ne (tgt := 36) hx hb dX8_reason_29 (by decide) (fun c1 => ?_) (fun c1 => ?_)
    · have hf := (if_neg c1).mp hf
      refine lv_iconst (v := 0) hx hb dX8_reason_36 (by decide) ?_
      exact hJ37 S l0 l1 l2 0 t1 hf H locs ls hH hl
    · have hf := (if_pos c1).mp hf
      refine lv_iconst (v := 2) hx hb dX8_reason_32 (by decide) ?_
      refine lv_goto (tgt := 37) hx hb dX8_reason_33 (by decide) ?_
      exact hJ37 S l0 l1 l2 2 t1 hf H locs ls hH hl
  refine lv_aload_n hx hb dX8_reason_0 rfl (lv_at hl 0 rfl) ?_
  refine lv_iload_n hx hb dX8_reason_1 rfl (lv_at hl 1 rfl) ?_
  refine lv_iconst (v := 0) hx hb dX8_reason_2 (by decide) ?_
  refine lv_iconst (v := 1) hx hb dX8_reason_3 (by decide) ?_
  refine q_backI0 X hH (q_runS [.int a1, .int 0, .int 1] [.ref a0] X hH hl (c_X8_in l D cy G X.2.2.2.1 S a1 0 1 _ _ hf) mf_X8_in tw_1695 tw_1694 ⟨Nat.le_of_ble_eq_true rfl, Nat.le_of_ble_eq_true rfl⟩ rfl (Nat.le_of_ble_eq_true rfl) dX8_reason_4 ⟨Nat.le_of_ble_eq_true rfl, Nat.le_of_ble_eq_true rfl⟩) (fun v2 S1 hf H locs hH => ?_)
  refine lv_if_ne (tgt := 14) hx hb dX8_reason_7 (by decide) (fun c3 => ?_) (fun c3 => ?_)
  · have hf := (if_neg c3).mp hf
    refine lv_iload_n hx hb dX8_reason_14 rfl (lv_at hl 1 rfl) ?_
    refine lv_if_ne (tgt := 25) hx hb dX8_reason_15 (by decide) (fun c4 => ?_) (fun c4 => ?_)
    · have hf := (if_neg c4).mp hf
      refine lv_aload_n hx hb dX8_reason_25 rfl (lv_at hl 0 rfl) ?_
      refine q_getI (T := TX8) (N := 25) X hH hf iw_X8 rfl (by decide) tw_1616 (fun _ h => h) dX8_reason_26 (fun v5 hf => ?_)
      exact hJ29 S1 a0 a1 a2 v5 a0 hf H locs ls hH hl
    · have hf := (if_pos c4).mp hf
      refine lv_aload_n hx hb dX8_reason_18 rfl (lv_at hl 0 rfl) ?_
      refine q_getI (T := TX8) (N := 25) X hH hf iw_X8 rfl (by decide) tw_1614 (fun _ h => h) dX8_reason_19 (fun v6 hf => ?_)
      refine lv_goto (tgt := 29) hx hb dX8_reason_22 (by decide) ?_
      exact hJ29 S1 a0 a1 a2 v6 a0 hf H locs ls hH hl
  · have hf := (if_pos c3).mp hf
    refine lv_iconst (v := 1) hx hb dX8_reason_10 (by decide) ?_
    refine lv_goto (tgt := 37) hx hb dX8_reason_11 (by decide) ?_
    exact hJ37 S1 a0 a1 a2 1 a0 hf H locs ls hH hl
-- X8_w
def f_X8_w (S : PS) (a0 : Nat) (a1 : Int32) (a2 : Int32) (post : Int32 → PS → Prop) : Prop :=
  gR S a0 12 1 fun v1 => (
  aI S v1 0 (((13 : Int32) + ((9 : Int32) * a1)) + a2) fun v2 => (
  post v2 S))
abbrev rm_X8_w : Room := { frames := 0, cells := 0, slots := 0, locals := 0 }
set_option maxHeartbeats 4000000 in
set_option maxRecDepth 100000 in
theorem c_X8_w (l : Launch) (D : va_G) (cy : Nat → ClassId) (G : p_GT) (hG : p_ok G) (S : PS) (a0 : Nat) (a1 : Int32) (a2 : Int32) (post : Int32 → PS → Prop) (sz : Nat) (hf : f_X8_w S a0 a1 a2 post) : p_Mi l D cy G S sz yX8_w (Cond.code yX8_w cX8_w 3 (some .int) :: wG) rm_X8_w [.ref a0, .int a1, .int a2] 0 0 post := by
  refine q_start hG (Qc := fun A => va_Qi post (p_Post D cy A) A) mf_X8_w (Nat.le_of_ble_eq_true rfl) (own := RX8) rfl ?_
  intro p e s m below meth c A X hr hlk hnm ls hl hH
  have hx := X.1.1
  have hb := X.1.2.1
  replace hl : lv_has ls 3 [(0, .ref a0), (1, .int a1), (2, .int a2)] := hl
  obtain ⟨H, hHe⟩ : ∃ H, H = s.heap := ⟨_, rfl⟩
  obtain ⟨locs, hlo⟩ : ∃ locs : List Loc, locs = [] := ⟨_, rfl⟩
  rw [← hHe, ← hlo] at hH
  show W p l e rm_X8_w s m [.ref a0, .int a1, .int a2].toArray below meth c s.heap [] 0 0 _ _
  rw [← hHe, ← hlo]
  refine lv_aload_n hx hb dX8_w_0 rfl (lv_at hl 0 rfl) ?_
  refine q_getR (T := TX8) (N := 25) X hH hf iw_X8 rfl (by decide) tw_1610 (fun _ h => h) dX8_w_1 (fun v1 hf => ?_)
  refine lv_bipush (v := 13) hx hb dX8_w_4 (by decide) ?_
  refine lv_bipush (v := 9) hx hb dX8_w_6 (by decide) ?_
  refine lv_iload_n hx hb dX8_w_8 rfl (lv_at hl 1 rfl) ?_
  refine lv_imul hx hb dX8_w_9 ?_
  refine lv_iadd hx hb dX8_w_10 ?_
  refine lv_iload_n hx hb dX8_w_11 rfl (lv_at hl 2 rfl) ?_
  refine lv_iadd hx hb dX8_w_12 ?_
  refine q_iald X hH hf dX8_w_13 (fun v2 hf => ?_)
  exact q_retI X hH hr hlk hf (Nat.zero_le _) (Nat.zero_le _) dX8_w_14
-- X8_setBond
def f_X8_setBond (S : PS) (a0 : Nat) (a1 : Int32) (a2 : Int32) (a3 : Int32) (post : PS → Prop) : Prop :=
  gR S a0 12 1 fun v1 => (
  sI S v1 0 (((13 : Int32) + ((9 : Int32) * a1)) + a2) a3 fun S2 => (
  gR S2 a0 12 1 fun v3 => (
  sI S2 v3 0 (((13 : Int32) + ((9 : Int32) * a2)) + a1) a3 fun S4 => (
  post S4))))
abbrev rm_X8_setBond : Room := { frames := 0, cells := 0, slots := 0, locals := 0 }
set_option maxHeartbeats 4000000 in
set_option maxRecDepth 100000 in
theorem c_X8_setBond (l : Launch) (D : va_G) (cy : Nat → ClassId) (G : p_GT) (hG : p_ok G) (S : PS) (a0 : Nat) (a1 : Int32) (a2 : Int32) (a3 : Int32) (post : PS → Prop) (sz : Nat) (hf : f_X8_setBond S a0 a1 a2 a3 post) : p_Mv l D cy G S sz yX8_setBond (Cond.code yX8_setBond cX8_setBond 4 none :: wG) rm_X8_setBond [.ref a0, .int a1, .int a2, .int a3] 0 0 post := by
  refine q_start hG (Qc := fun A => va_Qv post (p_Post D cy A) A) mf_X8_setBond (Nat.le_of_ble_eq_true rfl) (own := RX8) rfl ?_
  intro p e s m below meth c A X hr hlk hnm ls hl hH
  have hx := X.1.1
  have hb := X.1.2.1
  replace hl : lv_has ls 4 [(0, .ref a0), (1, .int a1), (2, .int a2), (3, .int a3)] := hl
  obtain ⟨H, hHe⟩ : ∃ H, H = s.heap := ⟨_, rfl⟩
  obtain ⟨locs, hlo⟩ : ∃ locs : List Loc, locs = [] := ⟨_, rfl⟩
  rw [← hHe, ← hlo] at hH
  show W p l e rm_X8_setBond s m [.ref a0, .int a1, .int a2, .int a3].toArray below meth c s.heap [] 0 0 _ _
  rw [← hHe, ← hlo]
  refine lv_aload_n hx hb dX8_setBond_0 rfl (lv_at hl 0 rfl) ?_
  refine q_getR (T := TX8) (N := 25) X hH hf iw_X8 rfl (by decide) tw_1610 (fun _ h => h) dX8_setBond_1 (fun v1 hf => ?_)
  refine lv_bipush (v := 13) hx hb dX8_setBond_4 (by decide) ?_
  refine lv_bipush (v := 9) hx hb dX8_setBond_6 (by decide) ?_
  refine lv_iload_n hx hb dX8_setBond_8 rfl (lv_at hl 1 rfl) ?_
  refine lv_imul hx hb dX8_setBond_9 ?_
  refine lv_iadd hx hb dX8_setBond_10 ?_
  refine lv_iload_n hx hb dX8_setBond_11 rfl (lv_at hl 2 rfl) ?_
  refine lv_iadd hx hb dX8_setBond_12 ?_
  refine lv_iload_n hx hb dX8_setBond_13 rfl (lv_at hl 3 rfl) ?_
  refine q_iast X hH hf dX8_setBond_14 (fun S2 hf H locs hH => ?_)
  refine lv_aload_n hx hb dX8_setBond_15 rfl (lv_at hl 0 rfl) ?_
  refine q_getR (T := TX8) (N := 25) X hH hf iw_X8 rfl (by decide) tw_1610 (fun _ h => h) dX8_setBond_16 (fun v3 hf => ?_)
  refine lv_bipush (v := 13) hx hb dX8_setBond_19 (by decide) ?_
  refine lv_bipush (v := 9) hx hb dX8_setBond_21 (by decide) ?_
  refine lv_iload_n hx hb dX8_setBond_23 rfl (lv_at hl 2 rfl) ?_
  refine lv_imul hx hb dX8_setBond_24 ?_
  refine lv_iadd hx hb dX8_setBond_25 ?_
  refine lv_iload_n hx hb dX8_setBond_26 rfl (lv_at hl 1 rfl) ?_
  refine lv_iadd hx hb dX8_setBond_27 ?_
  refine lv_iload_n hx hb dX8_setBond_28 rfl (lv_at hl 3 rfl) ?_
  refine q_iast X hH hf dX8_setBond_29 (fun S4 hf H locs hH => ?_)
  exact q_retV X hH hr hlk hf (Nat.zero_le _) (Nat.zero_le _) dX8_setBond_30
-- X8_isHouse
def f_X8_isHouse (S : PS) (a0 : Nat) (a1 : Int32) (post : Int32 → PS → Prop) : Prop :=
  gR S a0 12 1 fun v1 => (
  aI S v1 0 0 fun v2 => (
  f_X8_in S a1 0 (v2 - 1) fun v4 S3 => (
  nZ .boolean v4 (post v4 S3))))
abbrev rm_X8_isHouse : Room := { frames := 1, cells := 0, slots := 0, locals := 22 }
set_option maxHeartbeats 4000000 in
set_option maxRecDepth 100000 in
theorem c_X8_isHouse (l : Launch) (D : va_G) (cy : Nat → ClassId) (G : p_GT) (hG : p_ok G) (S : PS) (a0 : Nat) (a1 : Int32) (post : Int32 → PS → Prop) (sz : Nat) (hf : f_X8_isHouse S a0 a1 post) : p_Mi l D cy G S sz yX8_isHouse (Cond.code yX8_isHouse cX8_isHouse 2 (some .boolean) :: wG) rm_X8_isHouse [.ref a0, .int a1] 0 0 post := by
  refine q_start hG (Qc := fun A => va_Qi post (p_Post D cy A) A) mf_X8_isHouse (Nat.le_of_ble_eq_true rfl) (own := RX8) rfl ?_
  intro p e s m below meth c A X hr hlk hnm ls hl hH
  have hx := X.1.1
  have hb := X.1.2.1
  replace hl : lv_has ls 2 [(0, .ref a0), (1, .int a1)] := hl
  obtain ⟨H, hHe⟩ : ∃ H, H = s.heap := ⟨_, rfl⟩
  obtain ⟨locs, hlo⟩ : ∃ locs : List Loc, locs = [] := ⟨_, rfl⟩
  rw [← hHe, ← hlo] at hH
  show W p l e rm_X8_isHouse s m [.ref a0, .int a1].toArray below meth c s.heap [] 0 0 _ _
  rw [← hHe, ← hlo]
  refine lv_iload_n hx hb dX8_isHouse_0 rfl (lv_at hl 1 rfl) ?_
  refine lv_iconst (v := 0) hx hb dX8_isHouse_1 (by decide) ?_
  refine lv_aload_n hx hb dX8_isHouse_2 rfl (lv_at hl 0 rfl) ?_
  refine q_getR (T := TX8) (N := 25) X hH hf iw_X8 rfl (by decide) tw_1610 (fun _ h => h) dX8_isHouse_3 (fun v1 hf => ?_)
  refine lv_iconst (v := 0) hx hb dX8_isHouse_6 (by decide) ?_
  refine q_iald X hH hf dX8_isHouse_7 (fun v2 hf => ?_)
  refine lv_iconst (v := 1) hx hb dX8_isHouse_8 (by decide) ?_
  refine lv_isub hx hb dX8_isHouse_9 ?_
  refine q_backI0 X hH (q_runS [.int a1, .int 0, .int (v2 - 1)] [] X hH hl (c_X8_in l D cy G X.2.2.2.1 S a1 0 (v2 - 1) _ _ hf) mf_X8_in tw_1695 tw_1694 ⟨Nat.le_of_ble_eq_true rfl, Nat.le_of_ble_eq_true rfl⟩ rfl (Nat.le_of_ble_eq_true rfl) dX8_isHouse_10 ⟨Nat.le_of_ble_eq_true rfl, Nat.le_of_ble_eq_true rfl⟩) (fun v4 S3 hf H locs hH => ?_)
  exact q_retZ X hH hr hlk hf (Nat.zero_le _) (Nat.zero_le _) dX8_isHouse_13
-- X8_isNone
def f_X8_isNone_J14 (post : Int32 → PS → Prop) (S : PS) (l1 : Int32) (t0 : Int32) (t1 : Nat) : Prop :=
  isO S t1 12 (
  f_X8_refuses S t1 t0 2 l1 fun v2 S1 => (
  nZ .boolean v2 (post v2 S1)))
def f_X8_isNone (S : PS) (a0 : Nat) (a1 : Int32) (post : Int32 → PS → Prop) : Prop :=
  isO S a0 12 (
  f_X8_isHouse S a0 a1 fun v2 S1 => (
  if v2 = 0 then
    f_X8_isNone_J14 post S1 a1 1 a0
  else
    f_X8_isNone_J14 post S1 a1 0 a0))
abbrev rm_X8_isNone : Room := { frames := 2, cells := 0, slots := 0, locals := 43 }
set_option maxHeartbeats 4000000 in
set_option maxRecDepth 100000 in
theorem c_X8_isNone (l : Launch) (D : va_G) (cy : Nat → ClassId) (G : p_GT) (hG : p_ok G) (S : PS) (a0 : Nat) (a1 : Int32) (post : Int32 → PS → Prop) (sz : Nat) (hf : f_X8_isNone S a0 a1 post) : p_Mi l D cy G S sz yX8_isNone (Cond.code yX8_isNone cX8_isNone 2 (some .boolean) :: wG) rm_X8_isNone [.ref a0, .int a1] 0 0 post := by
  refine q_start hG (Qc := fun A => va_Qi post (p_Post D cy A) A) mf_X8_isNone (Nat.le_of_ble_eq_true rfl) (own := RX8) rfl ?_
  intro p e s m below meth c A X hr hlk hnm ls hl hH
  have hx := X.1.1
  have hb := X.1.2.1
  replace hl : lv_has ls 2 [(0, .ref a0), (1, .int a1)] := hl
  obtain ⟨H, hHe⟩ : ∃ H, H = s.heap := ⟨_, rfl⟩
  obtain ⟨locs, hlo⟩ : ∃ locs : List Loc, locs = [] := ⟨_, rfl⟩
  rw [← hHe, ← hlo] at hH
  show W p l e rm_X8_isNone s m [.ref a0, .int a1].toArray below meth c s.heap [] 0 0 _ _
  rw [← hHe, ← hlo]
  have hJ14 : ∀ (S : PS) (l1 : Int32) (t0 : Int32) (t1 : Nat), f_X8_isNone_J14 post S l1 t0 t1 → ∀ (H : Heap) (locs : List Loc) (ls : Array Slot), p_H D cy S A s H locs → lv_has ls 2 [(1, .int l1)] → W p l e rm_X8_isNone s m [.ref a0, .int a1].toArray below meth c H locs 0 0 (MQ below (va_Qi post (p_Post D cy A) A) [.ref a0, .int a1].toArray s 0 0 A) (F0 m 14 ls [.int t0, .ref t1]) := by
    intro S l1 t0 t1 hf H locs ls hH hl
    refine lv_iconst (v := 2) hx hb dX8_isNone_14 (by decide) ?_
    refine lv_iload_n hx hb dX8_isNone_15 rfl (lv_at hl 0 rfl) ?_
    obtain ⟨hb1, hb2, hf⟩ := hf
    refine q_backI0 X hH (q_runV [.int t0, .int 2, .int l1] [] X hH hl (c_X8_refuses l D cy G X.2.2.2.1 S t1 t0 2 l1 _ _ hf) mf_X8_refuses mv_X8_refuses tw_1713 ⟨Nat.le_of_ble_eq_true rfl, Nat.le_of_ble_eq_true rfl⟩ hb1 hb2 (T := TX8) (N := 25) rfl rfl (Nat.le_of_ble_eq_true rfl) dX8_isNone_16 ⟨Nat.le_of_ble_eq_true rfl, Nat.le_of_ble_eq_true rfl⟩) (fun v2 S1 hf H locs hH => ?_)
    exact q_retZ X hH hr hlk hf (Nat.zero_le _) (Nat.zero_le _) dX8_isNone_19
  refine lv_aload_n hx hb dX8_isNone_0 rfl (lv_at hl 0 rfl) ?_
  refine lv_aload_n hx hb dX8_isNone_1 rfl (lv_at hl 0 rfl) ?_
  refine lv_iload_n hx hb dX8_isNone_2 rfl (lv_at hl 1 rfl) ?_
  obtain ⟨hb1, hb2, hf⟩ := hf
  refine q_backI0 X hH (q_runV [.int a1] [.ref a0] X hH hl (c_X8_isHouse l D cy G X.2.2.2.1 S a0 a1 _ _ hf) mf_X8_isHouse mv_X8_isHouse tw_1737 ⟨Nat.le_of_ble_eq_true rfl, Nat.le_of_ble_eq_true rfl⟩ hb1 hb2 (T := TX8) (N := 25) rfl rfl (Nat.le_of_ble_eq_true rfl) dX8_isNone_3 ⟨Nat.le_of_ble_eq_true rfl, Nat.le_of_ble_eq_true rfl⟩) (fun v2 S1 hf H locs hH => ?_)
  refine lv_if_ne (tgt := 13) hx hb dX8_isNone_6 (by decide) (fun c3 => ?_) (fun c3 => ?_)
  · have hf := (if_neg c3).mp hf
    refine lv_iconst (v := 0) hx hb dX8_isNone_13 (by decide) ?_
    exact hJ14 S1 a1 0 a0 hf H locs ls hH (lv_sub hl [1] rfl)
  · have hf := (if_pos c3).mp hf
    refine lv_iconst (v := 1) hx hb dX8_isNone_9 (by decide) ?_
    refine lv_goto (tgt := 14) hx hb dX8_isNone_10 (by decide) ?_
    exact hJ14 S1 a1 1 a0 hf H locs ls hH (lv_sub hl [1] rfl)
-- X8_areNone
def f_X8_areNone_J27 (post : Int32 → PS → Prop) (S : PS) (l1 : Int32) (t0 : Int32) (t1 : Nat) : Prop :=
  isO S t1 12 (
  f_X8_refuses S t1 t0 3 l1 fun v2 S1 => (
  if v2 = 0 then
    nZ .boolean 0 (post 0 S1)
  else
    nZ .boolean 1 (post 1 S1)))
def f_X8_areNone (S : PS) (a0 : Nat) (a1 : Int32) (a2 : Int32) (post : Int32 → PS → Prop) : Prop :=
  isO S a0 12 (
  f_X8_isNone S a0 a1 fun v2 S1 => (
  if v2 = 0 then
    isO S1 a0 12 (
    f_X8_isNone S1 a0 a2 fun v5 S4 => (
    if v5 = 0 then
      if a1 = a2 then
        f_X8_areNone_J27 post S4 a1 1 a0
      else
        f_X8_areNone_J27 post S4 a1 0 a0
    else
      nZ .boolean 1 (post 1 S4)))
  else
    nZ .boolean 1 (post 1 S1)))
abbrev rm_X8_areNone : Room := { frames := 3, cells := 0, slots := 0, locals := 64 }
set_option maxHeartbeats 4000000 in
set_option maxRecDepth 100000 in
theorem c_X8_areNone (l : Launch) (D : va_G) (cy : Nat → ClassId) (G : p_GT) (hG : p_ok G) (S : PS) (a0 : Nat) (a1 : Int32) (a2 : Int32) (post : Int32 → PS → Prop) (sz : Nat) (hf : f_X8_areNone S a0 a1 a2 post) : p_Mi l D cy G S sz yX8_areNone (Cond.code yX8_areNone cX8_areNone 3 (some .boolean) :: wG) rm_X8_areNone [.ref a0, .int a1, .int a2] 0 0 post := by
  refine q_start hG (Qc := fun A => va_Qi post (p_Post D cy A) A) mf_X8_areNone (Nat.le_of_ble_eq_true rfl) (own := RX8) rfl ?_
  intro p e s m below meth c A X hr hlk hnm ls hl hH
  have hx := X.1.1
  have hb := X.1.2.1
  replace hl : lv_has ls 3 [(0, .ref a0), (1, .int a1), (2, .int a2)] := hl
  obtain ⟨H, hHe⟩ : ∃ H, H = s.heap := ⟨_, rfl⟩
  obtain ⟨locs, hlo⟩ : ∃ locs : List Loc, locs = [] := ⟨_, rfl⟩
  rw [← hHe, ← hlo] at hH
  show W p l e rm_X8_areNone s m [.ref a0, .int a1, .int a2].toArray below meth c s.heap [] 0 0 _ _
  rw [← hHe, ← hlo]
  have hJ27 : ∀ (S : PS) (l1 : Int32) (t0 : Int32) (t1 : Nat), f_X8_areNone_J27 post S l1 t0 t1 → ∀ (H : Heap) (locs : List Loc) (ls : Array Slot), p_H D cy S A s H locs → lv_has ls 3 [(1, .int l1)] → W p l e rm_X8_areNone s m [.ref a0, .int a1, .int a2].toArray below meth c H locs 0 0 (MQ below (va_Qi post (p_Post D cy A) A) [.ref a0, .int a1, .int a2].toArray s 0 0 A) (F0 m 27 ls [.int t0, .ref t1]) := by
    intro S l1 t0 t1 hf H locs ls hH hl
    refine lv_iconst (v := 3) hx hb dX8_areNone_27 (by decide) ?_
    refine lv_iload_n hx hb dX8_areNone_28 rfl (lv_at hl 0 rfl) ?_
    obtain ⟨hb1, hb2, hf⟩ := hf
    refine q_backI0 X hH (q_runV [.int t0, .int 3, .int l1] [] X hH hl (c_X8_refuses l D cy G X.2.2.2.1 S t1 t0 3 l1 _ _ hf) mf_X8_refuses mv_X8_refuses tw_1713 ⟨Nat.le_of_ble_eq_true rfl, Nat.le_of_ble_eq_true rfl⟩ hb1 hb2 (T := TX8) (N := 25) rfl rfl (Nat.le_of_ble_eq_true rfl) dX8_areNone_29 ⟨Nat.le_of_ble_eq_true rfl, Nat.le_of_ble_eq_true rfl⟩) (fun v2 S1 hf H locs hH => ?_)
    refine lv_if_eq (tgt := 39) hx hb dX8_areNone_32 (by decide) (fun c3 => ?_) (fun c3 => ?_)
    · have hf := (if_pos c3).mp hf
      refine lv_iconst (v := 0) hx hb dX8_areNone_39 (by decide) ?_
      exact q_retZ X hH hr hlk hf (Nat.zero_le _) (Nat.zero_le _) dX8_areNone_40
    · have hf := (if_neg c3).mp hf
      refine lv_iconst (v := 1) hx hb dX8_areNone_35 (by decide) ?_
      refine lv_goto (tgt := 40) hx hb dX8_areNone_36 (by decide) ?_
      exact q_retZ X hH hr hlk hf (Nat.zero_le _) (Nat.zero_le _) dX8_areNone_40
  refine lv_aload_n hx hb dX8_areNone_0 rfl (lv_at hl 0 rfl) ?_
  refine lv_iload_n hx hb dX8_areNone_1 rfl (lv_at hl 1 rfl) ?_
  obtain ⟨hb1, hb2, hf⟩ := hf
  refine q_backI0 X hH (q_runV [.int a1] [] X hH hl (c_X8_isNone l D cy G X.2.2.2.1 S a0 a1 _ _ hf) mf_X8_isNone mv_X8_isNone tw_1733 ⟨Nat.le_of_ble_eq_true rfl, Nat.le_of_ble_eq_true rfl⟩ hb1 hb2 (T := TX8) (N := 25) rfl rfl (Nat.le_of_ble_eq_true rfl) dX8_areNone_2 ⟨Nat.le_of_ble_eq_true rfl, Nat.le_of_ble_eq_true rfl⟩) (fun v2 S1 hf H locs hH => ?_)
  refine lv_if_ne (tgt := 35) hx hb dX8_areNone_5 (by decide) (fun c3 => ?_) (fun c3 => ?_)
  · have hf := (if_neg c3).mp hf
    refine lv_iconst (v := 1) hx hb dX8_areNone_35 (by decide) ?_
    refine lv_goto (tgt := 40) hx hb dX8_areNone_36 (by decide) ?_
    exact q_retZ X hH hr hlk hf (Nat.zero_le _) (Nat.zero_le _) dX8_areNone_40
  · have hf := (if_pos c3).mp hf
    refine lv_aload_n hx hb dX8_areNone_8 rfl (lv_at hl 0 rfl) ?_
    refine lv_iload_n hx hb dX8_areNone_9 rfl (lv_at hl 2 rfl) ?_
    obtain ⟨hb1, hb2, hf⟩ := hf
    refine q_backI0 X hH (q_runV [.int a2] [] X hH hl (c_X8_isNone l D cy G X.2.2.2.1 S1 a0 a2 _ _ hf) mf_X8_isNone mv_X8_isNone tw_1733 ⟨Nat.le_of_ble_eq_true rfl, Nat.le_of_ble_eq_true rfl⟩ hb1 hb2 (T := TX8) (N := 25) rfl rfl (Nat.le_of_ble_eq_true rfl) dX8_areNone_10 ⟨Nat.le_of_ble_eq_true rfl, Nat.le_of_ble_eq_true rfl⟩) (fun v5 S4 hf H locs hH => ?_)
    refine lv_if_ne (tgt := 35) hx hb dX8_areNone_13 (by decide) (fun c6 => ?_) (fun c6 => ?_)
    · have hf := (if_neg c6).mp hf
      refine lv_iconst (v := 1) hx hb dX8_areNone_35 (by decide) ?_
      refine lv_goto (tgt := 40) hx hb dX8_areNone_36 (by decide) ?_
      exact q_retZ X hH hr hlk hf (Nat.zero_le _) (Nat.zero_le _) dX8_areNone_40
    · have hf := (if_pos c6).mp hf
      refine lv_aload_n hx hb dX8_areNone_16 rfl (lv_at hl 0 rfl) ?_
      refine lv_iload_n hx hb dX8_areNone_17 rfl (lv_at hl 1 rfl) ?_
      refine lv_iload_n hx hb dX8_areNone_18 rfl (lv_at hl 2 rfl) ?_
      refine lv_icmp_ne (tgt := 26) hx hb dX8_areNone_19 (by decide) (fun c7 => ?_) (fun c7 => ?_)
      · have hf := (if_neg c7).mp hf
        refine lv_iconst (v := 0) hx hb dX8_areNone_26 (by decide) ?_
        exact hJ27 S4 a1 0 a0 hf H locs ls hH (lv_sub hl [1] rfl)
      · have hf := (if_pos c7).mp hf
        refine lv_iconst (v := 1) hx hb dX8_areNone_22 (by decide) ?_
        refine lv_goto (tgt := 27) hx hb dX8_areNone_23 (by decide) ?_
        exact hJ27 S4 a1 1 a0 hf H locs ls hH (lv_sub hl [1] rfl)
-- X8_holds
def f_X8_holds (S : PS) (a0 : Int32) (a1 : Int32) (post : Int32 → PS → Prop) : Prop :=
  if ((a0 >>> (a1 &&& 31)) &&& 1) = 1 then
    nZ .boolean 1 (post 1 S)
  else
    nZ .boolean 0 (post 0 S)
abbrev rm_X8_holds : Room := { frames := 0, cells := 0, slots := 0, locals := 0 }
set_option maxHeartbeats 4000000 in
set_option maxRecDepth 100000 in
theorem c_X8_holds (l : Launch) (D : va_G) (cy : Nat → ClassId) (G : p_GT) (hG : p_ok G) (S : PS) (a0 : Int32) (a1 : Int32) (post : Int32 → PS → Prop) (sz : Nat) (hf : f_X8_holds S a0 a1 post) : p_Mi l D cy G S sz yX8_holds (Cond.code yX8_holds cX8_holds 2 (some .boolean) :: wG) rm_X8_holds [.int a0, .int a1] 0 0 post := by
  refine q_start hG (Qc := fun A => va_Qi post (p_Post D cy A) A) mf_X8_holds (Nat.le_of_ble_eq_true rfl) (own := RX8) rfl ?_
  intro p e s m below meth c A X hr hlk hnm ls hl hH
  have hx := X.1.1
  have hb := X.1.2.1
  replace hl : lv_has ls 2 [(0, .int a0), (1, .int a1)] := hl
  obtain ⟨H, hHe⟩ : ∃ H, H = s.heap := ⟨_, rfl⟩
  obtain ⟨locs, hlo⟩ : ∃ locs : List Loc, locs = [] := ⟨_, rfl⟩
  rw [← hHe, ← hlo] at hH
  show W p l e rm_X8_holds s m [.int a0, .int a1].toArray below meth c s.heap [] 0 0 _ _
  rw [← hHe, ← hlo]
  refine lv_iload_n hx hb dX8_holds_0 rfl (lv_at hl 0 rfl) ?_
  refine lv_iload_n hx hb dX8_holds_1 rfl (lv_at hl 1 rfl) ?_
  refine lv_ishr hx hb dX8_holds_2 ?_
  refine lv_iconst (v := 1) hx hb dX8_holds_3 (by decide) ?_
  refine lv_iand hx hb dX8_holds_4 ?_
  refine lv_iconst (v := 1) hx hb dX8_holds_5 (by decide) ?_
  refine lv_icmp_ne (tgt := 13) hx hb dX8_holds_6 (by decide) (fun c1 => ?_) (fun c1 => ?_)
  · have hf := (if_neg c1).mp hf
    refine lv_iconst (v := 0) hx hb dX8_holds_13 (by decide) ?_
    exact q_retZ X hH hr hlk hf (Nat.zero_le _) (Nat.zero_le _) dX8_holds_14
  · have hf := (if_pos c1).mp hf
    refine lv_iconst (v := 1) hx hb dX8_holds_9 (by decide) ?_
    refine lv_goto (tgt := 14) hx hb dX8_holds_10 (by decide) ?_
    exact q_retZ X hH hr hlk hf (Nat.zero_le _) (Nat.zero_le _) dX8_holds_14
-- X8_everyone
def f_X8_everyone (S : PS) (a0 : Nat) (post : Int32 → PS → Prop) : Prop :=
  gR S a0 12 1 fun v1 => (
  aI S v1 0 0 fun v2 => (
  post (((1 : Int32) <<< (v2 &&& 31)) - 1) S))
abbrev rm_X8_everyone : Room := { frames := 0, cells := 0, slots := 0, locals := 0 }
set_option maxHeartbeats 4000000 in
set_option maxRecDepth 100000 in
theorem c_X8_everyone (l : Launch) (D : va_G) (cy : Nat → ClassId) (G : p_GT) (hG : p_ok G) (S : PS) (a0 : Nat) (post : Int32 → PS → Prop) (sz : Nat) (hf : f_X8_everyone S a0 post) : p_Mi l D cy G S sz yX8_everyone (Cond.code yX8_everyone cX8_everyone 1 (some .int) :: wG) rm_X8_everyone [.ref a0] 0 0 post := by
  refine q_start hG (Qc := fun A => va_Qi post (p_Post D cy A) A) mf_X8_everyone (Nat.le_of_ble_eq_true rfl) (own := RX8) rfl ?_
  intro p e s m below meth c A X hr hlk hnm ls hl hH
  have hx := X.1.1
  have hb := X.1.2.1
  replace hl : lv_has ls 1 [(0, .ref a0)] := hl
  obtain ⟨H, hHe⟩ : ∃ H, H = s.heap := ⟨_, rfl⟩
  obtain ⟨locs, hlo⟩ : ∃ locs : List Loc, locs = [] := ⟨_, rfl⟩
  rw [← hHe, ← hlo] at hH
  show W p l e rm_X8_everyone s m [.ref a0].toArray below meth c s.heap [] 0 0 _ _
  rw [← hHe, ← hlo]
  refine lv_iconst (v := 1) hx hb dX8_everyone_0 (by decide) ?_
  refine lv_aload_n hx hb dX8_everyone_1 rfl (lv_at hl 0 rfl) ?_
  refine q_getR (T := TX8) (N := 25) X hH hf iw_X8 rfl (by decide) tw_1610 (fun _ h => h) dX8_everyone_2 (fun v1 hf => ?_)
  refine lv_iconst (v := 0) hx hb dX8_everyone_5 (by decide) ?_
  refine q_iald X hH hf dX8_everyone_6 (fun v2 hf => ?_)
  refine lv_ishl hx hb dX8_everyone_7 ?_
  refine lv_iconst (v := 1) hx hb dX8_everyone_8 (by decide) ?_
  refine lv_isub hx hb dX8_everyone_9 ?_
  exact q_retI X hH hr hlk hf (Nat.zero_le _) (Nat.zero_le _) dX8_everyone_10
-- X8_tie
def f_X8_tie_J69 (post : Int32 → PS → Prop) (g5 : PS → Nat → Int32 → Int32 → Int32 → Int32 → Prop) (S : PS) (l0 : Nat) (l1 : Int32) (l2 : Int32) (l3 : Int32) (l4 : Int32) : Prop :=
  g5 S l0 l1 l2 l3 (l4 + 1)
def f_X8_tie_J61 (post : Int32 → PS → Prop) (g19 : PS → Nat → Int32 → Int32 → Int32 → Int32 → Int32 → Prop) (S : PS) (l0 : Nat) (l1 : Int32) (l2 : Int32) (l4 : Int32) (l5 : Int32) (t0 : Int32) (t1 : Int32) : Prop :=
  g19 S l0 l1 l2 (t1 + t0) l4 (l5 + 1)
def f_X8_tie_J60 (post : Int32 → PS → Prop) (g19 : PS → Nat → Int32 → Int32 → Int32 → Int32 → Int32 → Prop) (S : PS) (l0 : Nat) (l1 : Int32) (l2 : Int32) (l4 : Int32) (l5 : Int32) (t0 : Int32) : Prop :=
  f_X8_tie_J61 post g19 S l0 l1 l2 l4 l5 0 t0
def f_X8_tie_L19 (post : Int32 → PS → Prop) (g5 : PS → Nat → Int32 → Int32 → Int32 → Int32 → Prop) : Nat → PS → Nat → Int32 → Int32 → Int32 → Int32 → Int32 → Prop
  | 0, _, _, _, _, _, _, _ => False
  | n + 1, S, l0, l1, l2, l3, l4, l5 =>
  gR S l0 12 1 fun v1 => (
  aI S v1 0 0 fun v2 => (
  if v2 ≤ l5 then
    f_X8_tie_J69 post g5 S l0 l1 l2 l3 l4
  else
    f_X8_holds S l1 l4 fun v5 S4 => (
    if v5 = 0 then
      f_X8_tie_J60 post (f_X8_tie_L19 post g5 n) S4 l0 l1 l2 l4 l5 l3
    else
      f_X8_holds S4 l2 l5 fun v8 S7 => (
      if v8 = 0 then
        f_X8_tie_J60 post (f_X8_tie_L19 post g5 n) S7 l0 l1 l2 l4 l5 l3
      else
        isO S7 l0 12 (
        f_X8_w S7 l0 l4 l5 fun v11 S10 => (
        f_X8_tie_J61 post (f_X8_tie_L19 post g5 n) S10 l0 l1 l2 l4 l5 v11 l3))))))
def f_X8_tie_L5 (post : Int32 → PS → Prop) : Nat → PS → Nat → Int32 → Int32 → Int32 → Int32 → Prop
  | 0, _, _, _, _, _, _ => False
  | n + 1, S, l0, l1, l2, l3, l4 =>
  gR S l0 12 1 fun v1 => (
  aI S v1 0 0 fun v2 => (
  if v2 ≤ l4 then
    post l3 S
  else
    f_X8_tie_L19 post (f_X8_tie_L5 post n) 4096 S l0 l1 l2 l3 l4 0))
def f_X8_tie (S : PS) (a0 : Nat) (a1 : Int32) (a2 : Int32) (post : Int32 → PS → Prop) : Prop :=
  f_X8_tie_L5 post 4096 S a0 a1 a2 0 0
abbrev rm_X8_tie : Room := { frames := 1, cells := 0, slots := 0, locals := 22 }
set_option maxHeartbeats 4000000 in
set_option maxRecDepth 100000 in
theorem c_X8_tie (l : Launch) (D : va_G) (cy : Nat → ClassId) (G : p_GT) (hG : p_ok G) (S : PS) (a0 : Nat) (a1 : Int32) (a2 : Int32) (post : Int32 → PS → Prop) (sz : Nat) (hf : f_X8_tie S a0 a1 a2 post) : p_Mi l D cy G S sz yX8_tie (Cond.code yX8_tie cX8_tie 6 (some .int) :: wG) rm_X8_tie [.ref a0, .int a1, .int a2] 0 0 post := by
  refine q_start hG (Qc := fun A => va_Qi post (p_Post D cy A) A) mf_X8_tie (Nat.le_of_ble_eq_true rfl) (own := RX8) rfl ?_
  intro p e s m below meth c A X hr hlk hnm ls hl hH
  have hx := X.1.1
  have hb := X.1.2.1
  replace hl : lv_has ls 6 [(0, .ref a0), (1, .int a1), (2, .int a2)] := hl
  obtain ⟨H, hHe⟩ : ∃ H, H = s.heap := ⟨_, rfl⟩
  obtain ⟨locs, hlo⟩ : ∃ locs : List Loc, locs = [] := ⟨_, rfl⟩
  rw [← hHe, ← hlo] at hH
  show W p l e rm_X8_tie s m [.ref a0, .int a1, .int a2].toArray below meth c s.heap [] 0 0 _ _
  rw [← hHe, ← hlo]
  have hL5 : ∀ (n5 : Nat) (S : PS) (l0 : Nat) (l1 : Int32) (l2 : Int32) (l3 : Int32) (l4 : Int32), f_X8_tie_L5 post n5 S l0 l1 l2 l3 l4 → ∀ (H : Heap) (locs : List Loc) (ls : Array Slot), p_H D cy S A s H locs → lv_has ls 6 [(0, .ref l0), (1, .int l1), (2, .int l2), (3, .int l3), (4, .int l4)] → W p l e rm_X8_tie s m [.ref a0, .int a1, .int a2].toArray below meth c H locs 0 0 (MQ below (va_Qi post (p_Post D cy A) A) [.ref a0, .int a1, .int a2].toArray s 0 0 A) (F0 m 5 ls []) := by
    intro n5
    induction n5 with
    | zero => intro S l0 l1 l2 l3 l4 hf; exact hf.elim
    | succ n5 ih5 =>
      intro S l0 l1 l2 l3 l4 hf H locs ls hH hl
      have hL19 : ∀ (n19 : Nat) (S : PS) (l0 : Nat) (l1 : Int32) (l2 : Int32) (l3 : Int32) (l4 : Int32) (l5 : Int32), f_X8_tie_L19 post (f_X8_tie_L5 post n5) n19 S l0 l1 l2 l3 l4 l5 → ∀ (H : Heap) (locs : List Loc) (ls : Array Slot), p_H D cy S A s H locs → lv_has ls 6 [(0, .ref l0), (1, .int l1), (2, .int l2), (3, .int l3), (4, .int l4), (5, .int l5)] → W p l e rm_X8_tie s m [.ref a0, .int a1, .int a2].toArray below meth c H locs 0 0 (MQ below (va_Qi post (p_Post D cy A) A) [.ref a0, .int a1, .int a2].toArray s 0 0 A) (F0 m 19 ls []) := by
        intro n19
        induction n19 with
        | zero => intro S l0 l1 l2 l3 l4 l5 hf; exact hf.elim
        | succ n19 ih19 =>
          intro S l0 l1 l2 l3 l4 l5 hf H locs ls hH hl
          have hJ69 : ∀ (S : PS) (l0 : Nat) (l1 : Int32) (l2 : Int32) (l3 : Int32) (l4 : Int32), f_X8_tie_J69 post (f_X8_tie_L5 post n5) S l0 l1 l2 l3 l4 → ∀ (H : Heap) (locs : List Loc) (ls : Array Slot), p_H D cy S A s H locs → lv_has ls 6 [(0, .ref l0), (1, .int l1), (2, .int l2), (3, .int l3), (4, .int l4)] → W p l e rm_X8_tie s m [.ref a0, .int a1, .int a2].toArray below meth c H locs 0 0 (MQ below (va_Qi post (p_Post D cy A) A) [.ref a0, .int a1, .int a2].toArray s 0 0 A) (F0 m 69 ls []) := by
            intro S l0 l1 l2 l3 l4 hf H locs ls hH hl
            refine lv_iinc (v := l4 + 1) (lv' := [(4, .int (l4 + 1)), (0, .ref l0), (1, .int l1), (2, .int l2), (3, .int l3)]) hx hb dX8_tie_69 hl (k := 4) rfl rfl (by decide) rfl (fun ls hl => ?_)
            refine lv_goto (tgt := 5) hx hb dX8_tie_72 (by decide) ?_
            exact ih5 S l0 l1 l2 l3 (l4 + 1) hf H locs ls hH (lv_sub hl [1, 2, 3, 4, 0] rfl)
          have hJ61 : ∀ (S : PS) (l0 : Nat) (l1 : Int32) (l2 : Int32) (l4 : Int32) (l5 : Int32) (t0 : Int32) (t1 : Int32), f_X8_tie_J61 post (f_X8_tie_L19 post (f_X8_tie_L5 post n5) n19) S l0 l1 l2 l4 l5 t0 t1 → ∀ (H : Heap) (locs : List Loc) (ls : Array Slot), p_H D cy S A s H locs → lv_has ls 6 [(0, .ref l0), (1, .int l1), (2, .int l2), (4, .int l4), (5, .int l5)] → W p l e rm_X8_tie s m [.ref a0, .int a1, .int a2].toArray below meth c H locs 0 0 (MQ below (va_Qi post (p_Post D cy A) A) [.ref a0, .int a1, .int a2].toArray s 0 0 A) (F0 m 61 ls [.int t0, .int t1]) := by
            intro S l0 l1 l2 l4 l5 t0 t1 hf H locs ls hH hl
            refine lv_iadd hx hb dX8_tie_61 ?_
            refine lv_istore_n (lv' := [(3, .int (t1 + t0)), (0, .ref l0), (1, .int l1), (2, .int l2), (4, .int l4), (5, .int l5)]) hx hb dX8_tie_62 rfl hl (by decide) rfl (fun ls hl => ?_)
            refine lv_iinc (v := l5 + 1) (lv' := [(5, .int (l5 + 1)), (3, .int (t1 + t0)), (0, .ref l0), (1, .int l1), (2, .int l2), (4, .int l4)]) hx hb dX8_tie_63 hl (k := 5) rfl rfl (by decide) rfl (fun ls hl => ?_)
            refine lv_goto (tgt := 19) hx hb dX8_tie_66 (by decide) ?_
            exact ih19 S l0 l1 l2 (t1 + t0) l4 (l5 + 1) hf H locs ls hH (lv_sub hl [2, 3, 4, 1, 5, 0] rfl)
          have hJ60 : ∀ (S : PS) (l0 : Nat) (l1 : Int32) (l2 : Int32) (l4 : Int32) (l5 : Int32) (t0 : Int32), f_X8_tie_J60 post (f_X8_tie_L19 post (f_X8_tie_L5 post n5) n19) S l0 l1 l2 l4 l5 t0 → ∀ (H : Heap) (locs : List Loc) (ls : Array Slot), p_H D cy S A s H locs → lv_has ls 6 [(0, .ref l0), (1, .int l1), (2, .int l2), (4, .int l4), (5, .int l5)] → W p l e rm_X8_tie s m [.ref a0, .int a1, .int a2].toArray below meth c H locs 0 0 (MQ below (va_Qi post (p_Post D cy A) A) [.ref a0, .int a1, .int a2].toArray s 0 0 A) (F0 m 60 ls [.int t0]) := by
            intro S l0 l1 l2 l4 l5 t0 hf H locs ls hH hl
            refine lv_iconst (v := 0) hx hb dX8_tie_60 (by decide) ?_
            exact hJ61 S l0 l1 l2 l4 l5 0 t0 hf H locs ls hH hl
          refine lv_iload hx hb dX8_tie_19 (lv_at hl 5 rfl) ?_
          refine lv_aload_n hx hb dX8_tie_21 rfl (lv_at hl 0 rfl) ?_
          refine q_getR (T := TX8) (N := 25) X hH hf iw_X8 rfl (by decide) tw_1610 (fun _ h => h) dX8_tie_22 (fun v1 hf => ?_)
          refine lv_iconst (v := 0) hx hb dX8_tie_25 (by decide) ?_
          refine q_iald X hH hf dX8_tie_26 (fun v2 hf => ?_)
          refine lv_icmp_ge (tgt := 69) hx hb dX8_tie_27 (by decide) (fun c3 => ?_) (fun c3 => ?_)
          · have hf := (if_pos c3).mp hf
            exact hJ69 S l0 l1 l2 l3 l4 hf H locs ls hH (lv_sub hl [0, 1, 2, 3, 4] rfl)
          · have hf := (if_neg c3).mp hf
            refine lv_iload_n hx hb dX8_tie_30 rfl (lv_at hl 3 rfl) ?_
            refine lv_iload_n hx hb dX8_tie_31 rfl (lv_at hl 1 rfl) ?_
            refine lv_iload hx hb dX8_tie_32 (lv_at hl 4 rfl) ?_
            refine q_backI0 X hH (q_runS [.int l1, .int l4] [.int l3] X hH hl (c_X8_holds l D cy G X.2.2.2.1 S l1 l4 _ _ hf) mf_X8_holds tw_1810 tw_1809 ⟨Nat.le_of_ble_eq_true rfl, Nat.le_of_ble_eq_true rfl⟩ rfl (Nat.le_of_ble_eq_true rfl) dX8_tie_34 ⟨Nat.le_of_ble_eq_true rfl, Nat.le_of_ble_eq_true rfl⟩) (fun v5 S4 hf H locs hH => ?_)
            refine lv_if_eq (tgt := 60) hx hb dX8_tie_37 (by decide) (fun c6 => ?_) (fun c6 => ?_)
            · have hf := (if_pos c6).mp hf
              exact hJ60 S4 l0 l1 l2 l4 l5 l3 hf H locs ls hH (lv_sub hl [0, 1, 2, 4, 5] rfl)
            · have hf := (if_neg c6).mp hf
              refine lv_iload_n hx hb dX8_tie_40 rfl (lv_at hl 2 rfl) ?_
              refine lv_iload hx hb dX8_tie_41 (lv_at hl 5 rfl) ?_
              refine q_backI0 X hH (q_runS [.int l2, .int l5] [.int l3] X hH hl (c_X8_holds l D cy G X.2.2.2.1 S4 l2 l5 _ _ hf) mf_X8_holds tw_1810 tw_1809 ⟨Nat.le_of_ble_eq_true rfl, Nat.le_of_ble_eq_true rfl⟩ rfl (Nat.le_of_ble_eq_true rfl) dX8_tie_43 ⟨Nat.le_of_ble_eq_true rfl, Nat.le_of_ble_eq_true rfl⟩) (fun v8 S7 hf H locs hH => ?_)
              refine lv_if_eq (tgt := 60) hx hb dX8_tie_46 (by decide) (fun c9 => ?_) (fun c9 => ?_)
              · have hf := (if_pos c9).mp hf
                exact hJ60 S7 l0 l1 l2 l4 l5 l3 hf H locs ls hH (lv_sub hl [0, 1, 2, 4, 5] rfl)
              · have hf := (if_neg c9).mp hf
                refine lv_aload_n hx hb dX8_tie_49 rfl (lv_at hl 0 rfl) ?_
                refine lv_iload hx hb dX8_tie_50 (lv_at hl 4 rfl) ?_
                refine lv_iload hx hb dX8_tie_52 (lv_at hl 5 rfl) ?_
                obtain ⟨hb1, hb2, hf⟩ := hf
                refine q_backI0 X hH (q_runV [.int l4, .int l5] [.int l3] X hH hl (c_X8_w l D cy G X.2.2.2.1 S7 l0 l4 l5 _ _ hf) mf_X8_w mv_X8_w tw_1745 ⟨Nat.le_of_ble_eq_true rfl, Nat.le_of_ble_eq_true rfl⟩ hb1 hb2 (T := TX8) (N := 25) rfl rfl (Nat.le_of_ble_eq_true rfl) dX8_tie_54 ⟨Nat.le_of_ble_eq_true rfl, Nat.le_of_ble_eq_true rfl⟩) (fun v11 S10 hf H locs hH => ?_)
                refine lv_goto (tgt := 61) hx hb dX8_tie_57 (by decide) ?_
                exact hJ61 S10 l0 l1 l2 l4 l5 v11 l3 hf H locs ls hH (lv_sub hl [0, 1, 2, 4, 5] rfl)
      refine lv_iload hx hb dX8_tie_5 (lv_at hl 4 rfl) ?_
      refine lv_aload_n hx hb dX8_tie_7 rfl (lv_at hl 0 rfl) ?_
      refine q_getR (T := TX8) (N := 25) X hH hf iw_X8 rfl (by decide) tw_1610 (fun _ h => h) dX8_tie_8 (fun v1 hf => ?_)
      refine lv_iconst (v := 0) hx hb dX8_tie_11 (by decide) ?_
      refine q_iald X hH hf dX8_tie_12 (fun v2 hf => ?_)
      refine lv_icmp_ge (tgt := 75) hx hb dX8_tie_13 (by decide) (fun c3 => ?_) (fun c3 => ?_)
      · have hf := (if_pos c3).mp hf
        refine lv_iload_n hx hb dX8_tie_75 rfl (lv_at hl 3 rfl) ?_
        exact q_retI X hH hr hlk hf (Nat.zero_le _) (Nat.zero_le _) dX8_tie_76
      · have hf := (if_neg c3).mp hf
        refine lv_iconst (v := 0) hx hb dX8_tie_16 (by decide) ?_
        refine lv_istore (lv' := [(5, .int 0), (0, .ref l0), (1, .int l1), (2, .int l2), (3, .int l3), (4, .int l4)]) hx hb dX8_tie_17 hl (by decide) rfl (fun ls hl => ?_)
        exact hL19 4096 S l0 l1 l2 l3 l4 0 hf H locs ls hH (lv_sub hl [1, 2, 3, 4, 5, 0] rfl)
  refine lv_iconst (v := 0) hx hb dX8_tie_0 (by decide) ?_
  refine lv_istore_n (lv' := [(3, .int 0), (0, .ref a0), (1, .int a1), (2, .int a2)]) hx hb dX8_tie_1 rfl hl (by decide) rfl (fun ls hl => ?_)
  refine lv_iconst (v := 0) hx hb dX8_tie_2 (by decide) ?_
  refine lv_istore (lv' := [(4, .int 0), (3, .int 0), (0, .ref a0), (1, .int a1), (2, .int a2)]) hx hb dX8_tie_3 hl (by decide) rfl (fun ls hl => ?_)
  exact hL5 4096 S a0 a1 a2 0 0 hf H locs ls hH (lv_sub hl [2, 3, 4, 1, 0] rfl)
-- X8_sideSet
def f_X8_sideSet_L4 (post : Int32 → PS → Prop) : Nat → PS → Nat → Int32 → Int32 → Prop
  | 0, _, _, _, _ => False
  | n + 1, S, l0, l1, l2 =>
  gR S l0 12 1 fun v1 => (
  aI S v1 0 0 fun v2 => (
  if v2 ≤ l2 then
    post l1 S
  else
    gR S l0 12 1 fun v4 => (
    aI S v4 0 ((4 : Int32) + l2) fun v5 => (
    (f_X8_sideSet_L4 post n) S l0 (l1 ||| (v5 <<< (l2 &&& 31))) (l2 + 1)))))
def f_X8_sideSet (S : PS) (a0 : Nat) (post : Int32 → PS → Prop) : Prop :=
  f_X8_sideSet_L4 post 4096 S a0 0 0
abbrev rm_X8_sideSet : Room := { frames := 0, cells := 0, slots := 0, locals := 0 }
set_option maxHeartbeats 4000000 in
set_option maxRecDepth 100000 in
theorem c_X8_sideSet (l : Launch) (D : va_G) (cy : Nat → ClassId) (G : p_GT) (hG : p_ok G) (S : PS) (a0 : Nat) (post : Int32 → PS → Prop) (sz : Nat) (hf : f_X8_sideSet S a0 post) : p_Mi l D cy G S sz yX8_sideSet (Cond.code yX8_sideSet cX8_sideSet 3 (some .int) :: wG) rm_X8_sideSet [.ref a0] 0 0 post := by
  refine q_start hG (Qc := fun A => va_Qi post (p_Post D cy A) A) mf_X8_sideSet (Nat.le_of_ble_eq_true rfl) (own := RX8) rfl ?_
  intro p e s m below meth c A X hr hlk hnm ls hl hH
  have hx := X.1.1
  have hb := X.1.2.1
  replace hl : lv_has ls 3 [(0, .ref a0)] := hl
  obtain ⟨H, hHe⟩ : ∃ H, H = s.heap := ⟨_, rfl⟩
  obtain ⟨locs, hlo⟩ : ∃ locs : List Loc, locs = [] := ⟨_, rfl⟩
  rw [← hHe, ← hlo] at hH
  show W p l e rm_X8_sideSet s m [.ref a0].toArray below meth c s.heap [] 0 0 _ _
  rw [← hHe, ← hlo]
  have hL4 : ∀ (n4 : Nat) (S : PS) (l0 : Nat) (l1 : Int32) (l2 : Int32), f_X8_sideSet_L4 post n4 S l0 l1 l2 → ∀ (H : Heap) (locs : List Loc) (ls : Array Slot), p_H D cy S A s H locs → lv_has ls 3 [(0, .ref l0), (1, .int l1), (2, .int l2)] → W p l e rm_X8_sideSet s m [.ref a0].toArray below meth c H locs 0 0 (MQ below (va_Qi post (p_Post D cy A) A) [.ref a0].toArray s 0 0 A) (F0 m 4 ls []) := by
    intro n4
    induction n4 with
    | zero => intro S l0 l1 l2 hf; exact hf.elim
    | succ n4 ih4 =>
      intro S l0 l1 l2 hf H locs ls hH hl
      refine lv_iload_n hx hb dX8_sideSet_4 rfl (lv_at hl 2 rfl) ?_
      refine lv_aload_n hx hb dX8_sideSet_5 rfl (lv_at hl 0 rfl) ?_
      refine q_getR (T := TX8) (N := 25) X hH hf iw_X8 rfl (by decide) tw_1610 (fun _ h => h) dX8_sideSet_6 (fun v1 hf => ?_)
      refine lv_iconst (v := 0) hx hb dX8_sideSet_9 (by decide) ?_
      refine q_iald X hH hf dX8_sideSet_10 (fun v2 hf => ?_)
      refine lv_icmp_ge (tgt := 33) hx hb dX8_sideSet_11 (by decide) (fun c3 => ?_) (fun c3 => ?_)
      · have hf := (if_pos c3).mp hf
        refine lv_iload_n hx hb dX8_sideSet_33 rfl (lv_at hl 1 rfl) ?_
        exact q_retI X hH hr hlk hf (Nat.zero_le _) (Nat.zero_le _) dX8_sideSet_34
      · have hf := (if_neg c3).mp hf
        refine lv_iload_n hx hb dX8_sideSet_14 rfl (lv_at hl 1 rfl) ?_
        refine lv_aload_n hx hb dX8_sideSet_15 rfl (lv_at hl 0 rfl) ?_
        refine q_getR (T := TX8) (N := 25) X hH hf iw_X8 rfl (by decide) tw_1610 (fun _ h => h) dX8_sideSet_16 (fun v4 hf => ?_)
        refine lv_iconst (v := 4) hx hb dX8_sideSet_19 (by decide) ?_
        refine lv_iload_n hx hb dX8_sideSet_20 rfl (lv_at hl 2 rfl) ?_
        refine lv_iadd hx hb dX8_sideSet_21 ?_
        refine q_iald X hH hf dX8_sideSet_22 (fun v5 hf => ?_)
        refine lv_iload_n hx hb dX8_sideSet_23 rfl (lv_at hl 2 rfl) ?_
        refine lv_ishl hx hb dX8_sideSet_24 ?_
        refine lv_ior hx hb dX8_sideSet_25 ?_
        refine lv_istore_n (lv' := [(1, .int (l1 ||| (v5 <<< (l2 &&& 31)))), (0, .ref l0), (2, .int l2)]) hx hb dX8_sideSet_26 rfl hl (by decide) rfl (fun ls hl => ?_)
        refine lv_iinc (v := l2 + 1) (lv' := [(2, .int (l2 + 1)), (1, .int (l1 ||| (v5 <<< (l2 &&& 31)))), (0, .ref l0)]) hx hb dX8_sideSet_27 hl (k := 2) rfl rfl (by decide) rfl (fun ls hl => ?_)
        refine lv_goto (tgt := 4) hx hb dX8_sideSet_30 (by decide) ?_
        exact ih4 S l0 (l1 ||| (v5 <<< (l2 &&& 31))) (l2 + 1) hf H locs ls hH (lv_sub hl [2, 1, 0] rfl)
  refine lv_iconst (v := 0) hx hb dX8_sideSet_0 (by decide) ?_
  refine lv_istore_n (lv' := [(1, .int 0), (0, .ref a0)]) hx hb dX8_sideSet_1 rfl hl (by decide) rfl (fun ls hl => ?_)
  refine lv_iconst (v := 0) hx hb dX8_sideSet_2 (by decide) ?_
  refine lv_istore_n (lv' := [(2, .int 0), (1, .int 0), (0, .ref a0)]) hx hb dX8_sideSet_3 rfl hl (by decide) rfl (fun ls hl => ?_)
  exact hL4 4096 S a0 0 0 hf H locs ls hH (lv_sub hl [2, 1, 0] rfl)
-- X8_feudOf
def f_X8_feudOf (S : PS) (a0 : Nat) (a1 : Int32) (post : Int32 → PS → Prop) : Prop :=
  isO S a0 12 (
  f_X8_everyone S a0 fun v2 S1 => (
  isO S1 a0 12 (
  f_X8_tie S1 a0 a1 (v2 &&& (a1 ^^^ (-1))) fun v4 S3 => (
  post v4 S3))))
abbrev rm_X8_feudOf : Room := { frames := 2, cells := 0, slots := 0, locals := 47 }
set_option maxHeartbeats 4000000 in
set_option maxRecDepth 100000 in
theorem c_X8_feudOf (l : Launch) (D : va_G) (cy : Nat → ClassId) (G : p_GT) (hG : p_ok G) (S : PS) (a0 : Nat) (a1 : Int32) (post : Int32 → PS → Prop) (sz : Nat) (hf : f_X8_feudOf S a0 a1 post) : p_Mi l D cy G S sz yX8_feudOf (Cond.code yX8_feudOf cX8_feudOf 2 (some .int) :: wG) rm_X8_feudOf [.ref a0, .int a1] 0 0 post := by
  refine q_start hG (Qc := fun A => va_Qi post (p_Post D cy A) A) mf_X8_feudOf (Nat.le_of_ble_eq_true rfl) (own := RX8) rfl ?_
  intro p e s m below meth c A X hr hlk hnm ls hl hH
  have hx := X.1.1
  have hb := X.1.2.1
  replace hl : lv_has ls 2 [(0, .ref a0), (1, .int a1)] := hl
  obtain ⟨H, hHe⟩ : ∃ H, H = s.heap := ⟨_, rfl⟩
  obtain ⟨locs, hlo⟩ : ∃ locs : List Loc, locs = [] := ⟨_, rfl⟩
  rw [← hHe, ← hlo] at hH
  show W p l e rm_X8_feudOf s m [.ref a0, .int a1].toArray below meth c s.heap [] 0 0 _ _
  rw [← hHe, ← hlo]
  refine lv_aload_n hx hb dX8_feudOf_0 rfl (lv_at hl 0 rfl) ?_
  refine lv_iload_n hx hb dX8_feudOf_1 rfl (lv_at hl 1 rfl) ?_
  refine lv_aload_n hx hb dX8_feudOf_2 rfl (lv_at hl 0 rfl) ?_
  obtain ⟨hb1, hb2, hf⟩ := hf
  refine q_backI0 X hH (q_runV [] [.int a1, .ref a0] X hH hl (c_X8_everyone l D cy G X.2.2.2.1 S a0 _ _ hf) mf_X8_everyone mv_X8_everyone tw_1801 ⟨Nat.le_of_ble_eq_true rfl, Nat.le_of_ble_eq_true rfl⟩ hb1 hb2 (T := TX8) (N := 25) rfl rfl (Nat.le_of_ble_eq_true rfl) dX8_feudOf_3 ⟨Nat.le_of_ble_eq_true rfl, Nat.le_of_ble_eq_true rfl⟩) (fun v2 S1 hf H locs hH => ?_)
  refine lv_iload_n hx hb dX8_feudOf_6 rfl (lv_at hl 1 rfl) ?_
  refine lv_iconst (v := (-1)) hx hb dX8_feudOf_7 (by decide) ?_
  refine lv_ixor hx hb dX8_feudOf_8 ?_
  refine lv_iand hx hb dX8_feudOf_9 ?_
  obtain ⟨hb1, hb2, hf⟩ := hf
  refine q_backI0 X hH (q_runV [.int a1, .int (v2 &&& (a1 ^^^ (-1)))] [] X hH hl (c_X8_tie l D cy G X.2.2.2.1 S1 a0 a1 (v2 &&& (a1 ^^^ (-1))) _ _ hf) mf_X8_tie mv_X8_tie tw_1805 ⟨Nat.le_of_ble_eq_true rfl, Nat.le_of_ble_eq_true rfl⟩ hb1 hb2 (T := TX8) (N := 25) rfl rfl (Nat.le_of_ble_eq_true rfl) dX8_feudOf_10 ⟨Nat.le_of_ble_eq_true rfl, Nat.le_of_ble_eq_true rfl⟩) (fun v4 S3 hf H locs hH => ?_)
  exact q_retI X hH hr hlk hf (Nat.zero_le _) (Nat.zero_le _) dX8_feudOf_13
-- X8_bondsOf
def f_X8_bondsOf_J29 (post : Int32 → PS → Prop) (g4 : PS → Nat → Int32 → Int32 → Int32 → Prop) (S : PS) (l0 : Nat) (l1 : Int32) (l3 : Int32) (t0 : Int32) (t1 : Int32) : Prop :=
  g4 S l0 l1 (t1 + t0) (l3 + 1)
def f_X8_bondsOf_L4 (post : Int32 → PS → Prop) : Nat → PS → Nat → Int32 → Int32 → Int32 → Prop
  | 0, _, _, _, _, _ => False
  | n + 1, S, l0, l1, l2, l3 =>
  gR S l0 12 1 fun v1 => (
  aI S v1 0 0 fun v2 => (
  if v2 ≤ l3 then
    post l2 S
  else
    isO S l0 12 (
    f_X8_w S l0 l1 l3 fun v5 S4 => (
    if v5 ≤ 0 then
      f_X8_bondsOf_J29 post (f_X8_bondsOf_L4 post n) S4 l0 l1 l3 0 l2
    else
      f_X8_bondsOf_J29 post (f_X8_bondsOf_L4 post n) S4 l0 l1 l3 1 l2))))
def f_X8_bondsOf (S : PS) (a0 : Nat) (a1 : Int32) (post : Int32 → PS → Prop) : Prop :=
  f_X8_bondsOf_L4 post 4096 S a0 a1 0 0
abbrev rm_X8_bondsOf : Room := { frames := 1, cells := 0, slots := 0, locals := 22 }
set_option maxHeartbeats 4000000 in
set_option maxRecDepth 100000 in
theorem c_X8_bondsOf (l : Launch) (D : va_G) (cy : Nat → ClassId) (G : p_GT) (hG : p_ok G) (S : PS) (a0 : Nat) (a1 : Int32) (post : Int32 → PS → Prop) (sz : Nat) (hf : f_X8_bondsOf S a0 a1 post) : p_Mi l D cy G S sz yX8_bondsOf (Cond.code yX8_bondsOf cX8_bondsOf 4 (some .int) :: wG) rm_X8_bondsOf [.ref a0, .int a1] 0 0 post := by
  refine q_start hG (Qc := fun A => va_Qi post (p_Post D cy A) A) mf_X8_bondsOf (Nat.le_of_ble_eq_true rfl) (own := RX8) rfl ?_
  intro p e s m below meth c A X hr hlk hnm ls hl hH
  have hx := X.1.1
  have hb := X.1.2.1
  replace hl : lv_has ls 4 [(0, .ref a0), (1, .int a1)] := hl
  obtain ⟨H, hHe⟩ : ∃ H, H = s.heap := ⟨_, rfl⟩
  obtain ⟨locs, hlo⟩ : ∃ locs : List Loc, locs = [] := ⟨_, rfl⟩
  rw [← hHe, ← hlo] at hH
  show W p l e rm_X8_bondsOf s m [.ref a0, .int a1].toArray below meth c s.heap [] 0 0 _ _
  rw [← hHe, ← hlo]
  have hL4 : ∀ (n4 : Nat) (S : PS) (l0 : Nat) (l1 : Int32) (l2 : Int32) (l3 : Int32), f_X8_bondsOf_L4 post n4 S l0 l1 l2 l3 → ∀ (H : Heap) (locs : List Loc) (ls : Array Slot), p_H D cy S A s H locs → lv_has ls 4 [(0, .ref l0), (1, .int l1), (2, .int l2), (3, .int l3)] → W p l e rm_X8_bondsOf s m [.ref a0, .int a1].toArray below meth c H locs 0 0 (MQ below (va_Qi post (p_Post D cy A) A) [.ref a0, .int a1].toArray s 0 0 A) (F0 m 4 ls []) := by
    intro n4
    induction n4 with
    | zero => intro S l0 l1 l2 l3 hf; exact hf.elim
    | succ n4 ih4 =>
      intro S l0 l1 l2 l3 hf H locs ls hH hl
      have hJ29 : ∀ (S : PS) (l0 : Nat) (l1 : Int32) (l3 : Int32) (t0 : Int32) (t1 : Int32), f_X8_bondsOf_J29 post (f_X8_bondsOf_L4 post n4) S l0 l1 l3 t0 t1 → ∀ (H : Heap) (locs : List Loc) (ls : Array Slot), p_H D cy S A s H locs → lv_has ls 4 [(0, .ref l0), (1, .int l1), (3, .int l3)] → W p l e rm_X8_bondsOf s m [.ref a0, .int a1].toArray below meth c H locs 0 0 (MQ below (va_Qi post (p_Post D cy A) A) [.ref a0, .int a1].toArray s 0 0 A) (F0 m 29 ls [.int t0, .int t1]) := by
        intro S l0 l1 l3 t0 t1 hf H locs ls hH hl
        refine lv_iadd hx hb dX8_bondsOf_29 ?_
        refine lv_istore_n (lv' := [(2, .int (t1 + t0)), (0, .ref l0), (1, .int l1), (3, .int l3)]) hx hb dX8_bondsOf_30 rfl hl (by decide) rfl (fun ls hl => ?_)
        refine lv_iinc (v := l3 + 1) (lv' := [(3, .int (l3 + 1)), (2, .int (t1 + t0)), (0, .ref l0), (1, .int l1)]) hx hb dX8_bondsOf_31 hl (k := 3) rfl rfl (by decide) rfl (fun ls hl => ?_)
        refine lv_goto (tgt := 4) hx hb dX8_bondsOf_34 (by decide) ?_
        exact ih4 S l0 l1 (t1 + t0) (l3 + 1) hf H locs ls hH (lv_sub hl [2, 3, 1, 0] rfl)
      refine lv_iload_n hx hb dX8_bondsOf_4 rfl (lv_at hl 3 rfl) ?_
      refine lv_aload_n hx hb dX8_bondsOf_5 rfl (lv_at hl 0 rfl) ?_
      refine q_getR (T := TX8) (N := 25) X hH hf iw_X8 rfl (by decide) tw_1610 (fun _ h => h) dX8_bondsOf_6 (fun v1 hf => ?_)
      refine lv_iconst (v := 0) hx hb dX8_bondsOf_9 (by decide) ?_
      refine q_iald X hH hf dX8_bondsOf_10 (fun v2 hf => ?_)
      refine lv_icmp_ge (tgt := 37) hx hb dX8_bondsOf_11 (by decide) (fun c3 => ?_) (fun c3 => ?_)
      · have hf := (if_pos c3).mp hf
        refine lv_iload_n hx hb dX8_bondsOf_37 rfl (lv_at hl 2 rfl) ?_
        exact q_retI X hH hr hlk hf (Nat.zero_le _) (Nat.zero_le _) dX8_bondsOf_38
      · have hf := (if_neg c3).mp hf
        refine lv_iload_n hx hb dX8_bondsOf_14 rfl (lv_at hl 2 rfl) ?_
        refine lv_aload_n hx hb dX8_bondsOf_15 rfl (lv_at hl 0 rfl) ?_
        refine lv_iload_n hx hb dX8_bondsOf_16 rfl (lv_at hl 1 rfl) ?_
        refine lv_iload_n hx hb dX8_bondsOf_17 rfl (lv_at hl 3 rfl) ?_
        obtain ⟨hb1, hb2, hf⟩ := hf
        refine q_backI0 X hH (q_runV [.int l1, .int l3] [.int l2] X hH hl (c_X8_w l D cy G X.2.2.2.1 S l0 l1 l3 _ _ hf) mf_X8_w mv_X8_w tw_1745 ⟨Nat.le_of_ble_eq_true rfl, Nat.le_of_ble_eq_true rfl⟩ hb1 hb2 (T := TX8) (N := 25) rfl rfl (Nat.le_of_ble_eq_true rfl) dX8_bondsOf_18 ⟨Nat.le_of_ble_eq_true rfl, Nat.le_of_ble_eq_true rfl⟩) (fun v5 S4 hf H locs hH => ?_)
        refine lv_if_le (tgt := 28) hx hb dX8_bondsOf_21 (by decide) (fun c6 => ?_) (fun c6 => ?_)
        · have hf := (if_pos c6).mp hf
          refine lv_iconst (v := 0) hx hb dX8_bondsOf_28 (by decide) ?_
          exact hJ29 S4 l0 l1 l3 0 l2 hf H locs ls hH (lv_sub hl [0, 1, 3] rfl)
        · have hf := (if_neg c6).mp hf
          refine lv_iconst (v := 1) hx hb dX8_bondsOf_24 (by decide) ?_
          refine lv_goto (tgt := 29) hx hb dX8_bondsOf_25 (by decide) ?_
          exact hJ29 S4 l0 l1 l3 1 l2 hf H locs ls hH (lv_sub hl [0, 1, 3] rfl)
  refine lv_iconst (v := 0) hx hb dX8_bondsOf_0 (by decide) ?_
  refine lv_istore_n (lv' := [(2, .int 0), (0, .ref a0), (1, .int a1)]) hx hb dX8_bondsOf_1 rfl hl (by decide) rfl (fun ls hl => ?_)
  refine lv_iconst (v := 0) hx hb dX8_bondsOf_2 (by decide) ?_
  refine lv_istore_n (lv' := [(3, .int 0), (2, .int 0), (0, .ref a0), (1, .int a1)]) hx hb dX8_bondsOf_3 rfl hl (by decide) rfl (fun ls hl => ?_)
  exact hL4 4096 S a0 a1 0 0 hf H locs ls hH (lv_sub hl [2, 3, 1, 0] rfl)
-- X8_bondMany
def f_X8_bondMany_J28 (post : Int32 → PS → Prop) (S : PS) (l1 : Int32) : Prop :=
  (¬ (2 : Int32) = 0) ∧ (
  post (l1 / 2) S)
def f_X8_bondMany_L4 (post : Int32 → PS → Prop) : Nat → PS → Nat → Int32 → Int32 → Prop
  | 0, _, _, _, _ => False
  | n + 1, S, l0, l1, l2 =>
  gR S l0 12 1 fun v1 => (
  aI S v1 0 0 fun v2 => (
  if v2 ≤ l2 then
    f_X8_bondMany_J28 post S l1
  else
    isO S l0 12 (
    f_X8_bondsOf S l0 l2 fun v5 S4 => (
    (f_X8_bondMany_L4 post n) S4 l0 (l1 + v5) (l2 + 1)))))
def f_X8_bondMany (S : PS) (a0 : Nat) (post : Int32 → PS → Prop) : Prop :=
  f_X8_bondMany_L4 post 4096 S a0 0 0
abbrev rm_X8_bondMany : Room := { frames := 2, cells := 0, slots := 0, locals := 45 }
set_option maxHeartbeats 4000000 in
set_option maxRecDepth 100000 in
theorem c_X8_bondMany (l : Launch) (D : va_G) (cy : Nat → ClassId) (G : p_GT) (hG : p_ok G) (S : PS) (a0 : Nat) (post : Int32 → PS → Prop) (sz : Nat) (hf : f_X8_bondMany S a0 post) : p_Mi l D cy G S sz yX8_bondMany (Cond.code yX8_bondMany cX8_bondMany 3 (some .int) :: wG) rm_X8_bondMany [.ref a0] 0 0 post := by
  refine q_start hG (Qc := fun A => va_Qi post (p_Post D cy A) A) mf_X8_bondMany (Nat.le_of_ble_eq_true rfl) (own := RX8) rfl ?_
  intro p e s m below meth c A X hr hlk hnm ls hl hH
  have hx := X.1.1
  have hb := X.1.2.1
  replace hl : lv_has ls 3 [(0, .ref a0)] := hl
  obtain ⟨H, hHe⟩ : ∃ H, H = s.heap := ⟨_, rfl⟩
  obtain ⟨locs, hlo⟩ : ∃ locs : List Loc, locs = [] := ⟨_, rfl⟩
  rw [← hHe, ← hlo] at hH
  show W p l e rm_X8_bondMany s m [.ref a0].toArray below meth c s.heap [] 0 0 _ _
  rw [← hHe, ← hlo]
  have hL4 : ∀ (n4 : Nat) (S : PS) (l0 : Nat) (l1 : Int32) (l2 : Int32), f_X8_bondMany_L4 post n4 S l0 l1 l2 → ∀ (H : Heap) (locs : List Loc) (ls : Array Slot), p_H D cy S A s H locs → lv_has ls 3 [(0, .ref l0), (1, .int l1), (2, .int l2)] → W p l e rm_X8_bondMany s m [.ref a0].toArray below meth c H locs 0 0 (MQ below (va_Qi post (p_Post D cy A) A) [.ref a0].toArray s 0 0 A) (F0 m 4 ls []) := by
    intro n4
    induction n4 with
    | zero => intro S l0 l1 l2 hf; exact hf.elim
    | succ n4 ih4 =>
      intro S l0 l1 l2 hf H locs ls hH hl
      have hJ28 : ∀ (S : PS) (l1 : Int32), f_X8_bondMany_J28 post S l1 → ∀ (H : Heap) (locs : List Loc) (ls : Array Slot), p_H D cy S A s H locs → lv_has ls 3 [(1, .int l1)] → W p l e rm_X8_bondMany s m [.ref a0].toArray below meth c H locs 0 0 (MQ below (va_Qi post (p_Post D cy A) A) [.ref a0].toArray s 0 0 A) (F0 m 28 ls []) := by
        intro S l1 hf H locs ls hH hl
        refine lv_iload_n hx hb dX8_bondMany_28 rfl (lv_at hl 0 rfl) ?_
        refine lv_iconst (v := 2) hx hb dX8_bondMany_29 (by decide) ?_
        refine lv_idiv hx hb dX8_bondMany_30 hf.1 ?_
        have hf := hf.2
        exact q_retI X hH hr hlk hf (Nat.zero_le _) (Nat.zero_le _) dX8_bondMany_31
      refine lv_iload_n hx hb dX8_bondMany_4 rfl (lv_at hl 2 rfl) ?_
      refine lv_aload_n hx hb dX8_bondMany_5 rfl (lv_at hl 0 rfl) ?_
      refine q_getR (T := TX8) (N := 25) X hH hf iw_X8 rfl (by decide) tw_1610 (fun _ h => h) dX8_bondMany_6 (fun v1 hf => ?_)
      refine lv_iconst (v := 0) hx hb dX8_bondMany_9 (by decide) ?_
      refine q_iald X hH hf dX8_bondMany_10 (fun v2 hf => ?_)
      refine lv_icmp_ge (tgt := 28) hx hb dX8_bondMany_11 (by decide) (fun c3 => ?_) (fun c3 => ?_)
      · have hf := (if_pos c3).mp hf
        exact hJ28 S l1 hf H locs ls hH (lv_sub hl [1] rfl)
      · have hf := (if_neg c3).mp hf
        refine lv_iload_n hx hb dX8_bondMany_14 rfl (lv_at hl 1 rfl) ?_
        refine lv_aload_n hx hb dX8_bondMany_15 rfl (lv_at hl 0 rfl) ?_
        refine lv_iload_n hx hb dX8_bondMany_16 rfl (lv_at hl 2 rfl) ?_
        obtain ⟨hb1, hb2, hf⟩ := hf
        refine q_backI0 X hH (q_runV [.int l2] [.int l1] X hH hl (c_X8_bondsOf l D cy G X.2.2.2.1 S l0 l2 _ _ hf) mf_X8_bondsOf mv_X8_bondsOf tw_1773 ⟨Nat.le_of_ble_eq_true rfl, Nat.le_of_ble_eq_true rfl⟩ hb1 hb2 (T := TX8) (N := 25) rfl rfl (Nat.le_of_ble_eq_true rfl) dX8_bondMany_17 ⟨Nat.le_of_ble_eq_true rfl, Nat.le_of_ble_eq_true rfl⟩) (fun v5 S4 hf H locs hH => ?_)
        refine lv_iadd hx hb dX8_bondMany_20 ?_
        refine lv_istore_n (lv' := [(1, .int (l1 + v5)), (0, .ref l0), (2, .int l2)]) hx hb dX8_bondMany_21 rfl hl (by decide) rfl (fun ls hl => ?_)
        refine lv_iinc (v := l2 + 1) (lv' := [(2, .int (l2 + 1)), (1, .int (l1 + v5)), (0, .ref l0)]) hx hb dX8_bondMany_22 hl (k := 2) rfl rfl (by decide) rfl (fun ls hl => ?_)
        refine lv_goto (tgt := 4) hx hb dX8_bondMany_25 (by decide) ?_
        exact ih4 S4 l0 (l1 + v5) (l2 + 1) hf H locs ls hH (lv_sub hl [2, 1, 0] rfl)
  refine lv_iconst (v := 0) hx hb dX8_bondMany_0 (by decide) ?_
  refine lv_istore_n (lv' := [(1, .int 0), (0, .ref a0)]) hx hb dX8_bondMany_1 rfl hl (by decide) rfl (fun ls hl => ?_)
  refine lv_iconst (v := 0) hx hb dX8_bondMany_2 (by decide) ?_
  refine lv_istore_n (lv' := [(2, .int 0), (1, .int 0), (0, .ref a0)]) hx hb dX8_bondMany_3 rfl hl (by decide) rfl (fun ls hl => ?_)
  exact hL4 4096 S a0 0 0 hf H locs ls hH (lv_sub hl [2, 1, 0] rfl)
-- X8_comes
def f_X8_comes_J80 (post : Int32 → PS → Prop) (S : PS) (l0 : Nat) (l1 : Int32) : Prop :=
  pV S l0 12 4 (.int l1) fun S1 => (
  nZ .boolean 1 (post 1 S1))
def f_X8_comes_L61 (post : Int32 → PS → Prop) : Nat → PS → Nat → Int32 → Int32 → Prop
  | 0, _, _, _, _ => False
  | n + 1, S, l0, l1, l2 =>
  if 9 ≤ l2 then
    f_X8_comes_J80 post S l0 l1
  else
    isO S l0 12 (
    f_X8_setBond S l0 l1 l2 0 fun S2 => (
    (f_X8_comes_L61 post n) S2 l0 l1 (l2 + 1)))
def f_X8_comes_J19 (post : Int32 → PS → Prop) (S : PS) (l0 : Nat) (l1 : Int32) (t0 : Int32) (t1 : Nat) : Prop :=
  isO S t1 12 (
  f_X8_refuses S t1 t0 1 9 fun v2 S1 => (
  if v2 = 0 then
    gR S1 l0 12 1 fun v4 => (
    aI S1 v4 0 0 fun v5 => (
    sI S1 v4 0 0 (v5 + 1) fun S6 => (
    gR S6 l0 12 1 fun v7 => (
    aI S6 v7 0 1 fun v8 => (
    sI S6 v7 0 1 (v8 + 1) fun S9 => (
    gR S9 l0 12 1 fun v10 => (
    sI S9 v10 0 ((4 : Int32) + l1) 0 fun S11 => (
    f_X8_comes_L61 post 4096 S11 l0 l1 0))))))))
  else
    nZ .boolean 0 (post 0 S1)))
def f_X8_comes (S : PS) (a0 : Nat) (post : Int32 → PS → Prop) : Prop :=
  gR S a0 12 1 fun v1 => (
  aI S v1 0 0 fun v2 => (
  if v2 = 9 then
    f_X8_comes_J19 post S a0 v2 1 a0
  else
    f_X8_comes_J19 post S a0 v2 0 a0))
abbrev rm_X8_comes : Room := { frames := 1, cells := 0, slots := 0, locals := 23 }
set_option maxHeartbeats 4000000 in
set_option maxRecDepth 100000 in
theorem c_X8_comes (l : Launch) (D : va_G) (cy : Nat → ClassId) (G : p_GT) (hG : p_ok G) (S : PS) (a0 : Nat) (post : Int32 → PS → Prop) (sz : Nat) (hf : f_X8_comes S a0 post) : p_Mi l D cy G S sz yX8_comes (Cond.code yX8_comes cX8_comes 3 (some .boolean) :: wG) rm_X8_comes [.ref a0] 0 0 post := by
  refine q_start hG (Qc := fun A => va_Qi post (p_Post D cy A) A) mf_X8_comes (Nat.le_of_ble_eq_true rfl) (own := RX8) rfl ?_
  intro p e s m below meth c A X hr hlk hnm ls hl hH
  have hx := X.1.1
  have hb := X.1.2.1
  replace hl : lv_has ls 3 [(0, .ref a0)] := hl
  obtain ⟨H, hHe⟩ : ∃ H, H = s.heap := ⟨_, rfl⟩
  obtain ⟨locs, hlo⟩ : ∃ locs : List Loc, locs = [] := ⟨_, rfl⟩
  rw [← hHe, ← hlo] at hH
  show W p l e rm_X8_comes s m [.ref a0].toArray below meth c s.heap [] 0 0 _ _
  rw [← hHe, ← hlo]
  have hJ19 : ∀ (S : PS) (l0 : Nat) (l1 : Int32) (t0 : Int32) (t1 : Nat), f_X8_comes_J19 post S l0 l1 t0 t1 → ∀ (H : Heap) (locs : List Loc) (ls : Array Slot), p_H D cy S A s H locs → lv_has ls 3 [(0, .ref l0), (1, .int l1)] → W p l e rm_X8_comes s m [.ref a0].toArray below meth c H locs 0 0 (MQ below (va_Qi post (p_Post D cy A) A) [.ref a0].toArray s 0 0 A) (F0 m 19 ls [.int t0, .ref t1]) := by
    intro S l0 l1 t0 t1 hf H locs ls hH hl
    have hL61 : ∀ (n61 : Nat) (S : PS) (l0 : Nat) (l1 : Int32) (l2 : Int32), f_X8_comes_L61 post n61 S l0 l1 l2 → ∀ (H : Heap) (locs : List Loc) (ls : Array Slot), p_H D cy S A s H locs → lv_has ls 3 [(0, .ref l0), (1, .int l1), (2, .int l2)] → W p l e rm_X8_comes s m [.ref a0].toArray below meth c H locs 0 0 (MQ below (va_Qi post (p_Post D cy A) A) [.ref a0].toArray s 0 0 A) (F0 m 61 ls []) := by
      intro n61
      induction n61 with
      | zero => intro S l0 l1 l2 hf; exact hf.elim
      | succ n61 ih61 =>
        intro S l0 l1 l2 hf H locs ls hH hl
        have hJ80 : ∀ (S : PS) (l0 : Nat) (l1 : Int32), f_X8_comes_J80 post S l0 l1 → ∀ (H : Heap) (locs : List Loc) (ls : Array Slot), p_H D cy S A s H locs → lv_has ls 3 [(0, .ref l0), (1, .int l1)] → W p l e rm_X8_comes s m [.ref a0].toArray below meth c H locs 0 0 (MQ below (va_Qi post (p_Post D cy A) A) [.ref a0].toArray s 0 0 A) (F0 m 80 ls []) := by
          intro S l0 l1 hf H locs ls hH hl
          refine lv_aload_n hx hb dX8_comes_80 rfl (lv_at hl 0 rfl) ?_
          refine lv_iload_n hx hb dX8_comes_81 rfl (lv_at hl 1 rfl) ?_
          refine q_putV (T := TX8) (N := 25) (ty0 := tyX8) (ty := tyX8 4) X hH hf iw_X8 tyX8_ok nmX8 rfl (by decide) tw_1613 (fun _ h => h) rfl (tyX8_ok 4 (by decide)) rfl rfl dX8_comes_82 (fun S1 hf H locs hH => ?_)
          refine lv_iconst (v := 1) hx hb dX8_comes_85 (by decide) ?_
          exact q_retZ X hH hr hlk hf (Nat.zero_le _) (Nat.zero_le _) dX8_comes_86
        refine lv_iload_n hx hb dX8_comes_61 rfl (lv_at hl 2 rfl) ?_
        refine lv_bipush (v := 9) hx hb dX8_comes_62 (by decide) ?_
        refine lv_icmp_ge (tgt := 80) hx hb dX8_comes_64 (by decide) (fun c1 => ?_) (fun c1 => ?_)
        · have hf := (if_pos c1).mp hf
          exact hJ80 S l0 l1 hf H locs ls hH (lv_sub hl [0, 1] rfl)
        · have hf := (if_neg c1).mp hf
          refine lv_aload_n hx hb dX8_comes_67 rfl (lv_at hl 0 rfl) ?_
          refine lv_iload_n hx hb dX8_comes_68 rfl (lv_at hl 1 rfl) ?_
          refine lv_iload_n hx hb dX8_comes_69 rfl (lv_at hl 2 rfl) ?_
          refine lv_iconst (v := 0) hx hb dX8_comes_70 (by decide) ?_
          obtain ⟨hb1, hb2, hf⟩ := hf
          refine q_backV0 X hH (q_runV [.int l1, .int l2, .int 0] [] X hH hl (c_X8_setBond l D cy G X.2.2.2.1 S l0 l1 l2 0 _ _ hf) mf_X8_setBond mv_X8_setBond tw_1717 ⟨Nat.le_of_ble_eq_true rfl, Nat.le_of_ble_eq_true rfl⟩ hb1 hb2 (T := TX8) (N := 25) rfl rfl (Nat.le_of_ble_eq_true rfl) dX8_comes_71 ⟨Nat.le_of_ble_eq_true rfl, Nat.le_of_ble_eq_true rfl⟩) (fun S2 hf H locs hH => ?_)
          refine lv_iinc (v := l2 + 1) (lv' := [(2, .int (l2 + 1)), (0, .ref l0), (1, .int l1)]) hx hb dX8_comes_74 hl (k := 2) rfl rfl (by decide) rfl (fun ls hl => ?_)
          refine lv_goto (tgt := 61) hx hb dX8_comes_77 (by decide) ?_
          exact ih61 S2 l0 l1 (l2 + 1) hf H locs ls hH (lv_sub hl [1, 2, 0] rfl)
    refine lv_iconst (v := 1) hx hb dX8_comes_19 (by decide) ?_
    refine lv_bipush (v := 9) hx hb dX8_comes_20 (by decide) ?_
    obtain ⟨hb1, hb2, hf⟩ := hf
    refine q_backI0 X hH (q_runV [.int t0, .int 1, .int 9] [] X hH hl (c_X8_refuses l D cy G X.2.2.2.1 S t1 t0 1 9 _ _ hf) mf_X8_refuses mv_X8_refuses tw_1713 ⟨Nat.le_of_ble_eq_true rfl, Nat.le_of_ble_eq_true rfl⟩ hb1 hb2 (T := TX8) (N := 25) rfl rfl (Nat.le_of_ble_eq_true rfl) dX8_comes_22 ⟨Nat.le_of_ble_eq_true rfl, Nat.le_of_ble_eq_true rfl⟩) (fun v2 S1 hf H locs hH => ?_)
    refine lv_if_eq (tgt := 30) hx hb dX8_comes_25 (by decide) (fun c3 => ?_) (fun c3 => ?_)
    · have hf := (if_pos c3).mp hf
      refine lv_aload_n hx hb dX8_comes_30 rfl (lv_at hl 0 rfl) ?_
      refine q_getR (T := TX8) (N := 25) X hH hf iw_X8 rfl (by decide) tw_1610 (fun _ h => h) dX8_comes_31 (fun v4 hf => ?_)
      refine lv_iconst (v := 0) hx hb dX8_comes_34 (by decide) ?_
      refine lv_dup2_11 hx hb dX8_comes_35 rfl rfl ?_
      refine q_iald X hH hf dX8_comes_36 (fun v5 hf => ?_)
      refine lv_iconst (v := 1) hx hb dX8_comes_37 (by decide) ?_
      refine lv_iadd hx hb dX8_comes_38 ?_
      refine q_iast X hH hf dX8_comes_39 (fun S6 hf H locs hH => ?_)
      refine lv_aload_n hx hb dX8_comes_40 rfl (lv_at hl 0 rfl) ?_
      refine q_getR (T := TX8) (N := 25) X hH hf iw_X8 rfl (by decide) tw_1610 (fun _ h => h) dX8_comes_41 (fun v7 hf => ?_)
      refine lv_iconst (v := 1) hx hb dX8_comes_44 (by decide) ?_
      refine lv_dup2_11 hx hb dX8_comes_45 rfl rfl ?_
      refine q_iald X hH hf dX8_comes_46 (fun v8 hf => ?_)
      refine lv_iconst (v := 1) hx hb dX8_comes_47 (by decide) ?_
      refine lv_iadd hx hb dX8_comes_48 ?_
      refine q_iast X hH hf dX8_comes_49 (fun S9 hf H locs hH => ?_)
      refine lv_aload_n hx hb dX8_comes_50 rfl (lv_at hl 0 rfl) ?_
      refine q_getR (T := TX8) (N := 25) X hH hf iw_X8 rfl (by decide) tw_1610 (fun _ h => h) dX8_comes_51 (fun v10 hf => ?_)
      refine lv_iconst (v := 4) hx hb dX8_comes_54 (by decide) ?_
      refine lv_iload_n hx hb dX8_comes_55 rfl (lv_at hl 1 rfl) ?_
      refine lv_iadd hx hb dX8_comes_56 ?_
      refine lv_iconst (v := 0) hx hb dX8_comes_57 (by decide) ?_
      refine q_iast X hH hf dX8_comes_58 (fun S11 hf H locs hH => ?_)
      refine lv_iconst (v := 0) hx hb dX8_comes_59 (by decide) ?_
      refine lv_istore_n (lv' := [(2, .int 0), (0, .ref l0), (1, .int l1)]) hx hb dX8_comes_60 rfl hl (by decide) rfl (fun ls hl => ?_)
      exact hL61 4096 S11 l0 l1 0 hf H locs ls hH (lv_sub hl [1, 2, 0] rfl)
    · have hf := (if_neg c3).mp hf
      refine lv_iconst (v := 0) hx hb dX8_comes_28 (by decide) ?_
      exact q_retZ X hH hr hlk hf (Nat.zero_le _) (Nat.zero_le _) dX8_comes_29
  refine lv_aload_n hx hb dX8_comes_0 rfl (lv_at hl 0 rfl) ?_
  refine q_getR (T := TX8) (N := 25) X hH hf iw_X8 rfl (by decide) tw_1610 (fun _ h => h) dX8_comes_1 (fun v1 hf => ?_)
  refine lv_iconst (v := 0) hx hb dX8_comes_4 (by decide) ?_
  refine q_iald X hH hf dX8_comes_5 (fun v2 hf => ?_)
  refine lv_istore_n (lv' := [(1, .int v2), (0, .ref a0)]) hx hb dX8_comes_6 rfl hl (by decide) rfl (fun ls hl => ?_)
  refine lv_aload_n hx hb dX8_comes_7 rfl (lv_at hl 1 rfl) ?_
  refine lv_iload_n hx hb dX8_comes_8 rfl (lv_at hl 0 rfl) ?_
  refine lv_bipush (v := 9) hx hb dX8_comes_9 (by decide) ?_
  refine lv_icmp_ne (tgt := 18) hx hb dX8_comes_11 (by decide) (fun c3 => ?_) (fun c3 => ?_)
  · have hf := (if_neg c3).mp hf
    refine lv_iconst (v := 0) hx hb dX8_comes_18 (by decide) ?_
    exact hJ19 S a0 v2 0 a0 hf H locs ls hH (lv_sub hl [1, 0] rfl)
  · have hf := (if_pos c3).mp hf
    refine lv_iconst (v := 1) hx hb dX8_comes_14 (by decide) ?_
    refine lv_goto (tgt := 19) hx hb dX8_comes_15 (by decide) ?_
    exact hJ19 S a0 v2 1 a0 hf H locs ls hH (lv_sub hl [1, 0] rfl)
-- X8_household
def f_X8_household (S : PS) (a0 : Nat) (post : Int32 → PS → Prop) : Prop :=
  isO S a0 12 (
  f_X8_begins S a0 fun S1 => (
  isO S1 a0 12 (
  f_X8_comes S1 a0 fun v4 S3 => (
  isO S3 a0 12 (
  f_X8_ends S3 a0 v4 1 fun v6 S5 => (
  post v6 S5))))))
abbrev rm_X8_household : Room := { frames := 2, cells := 0, slots := 0, locals := 46 }
set_option maxHeartbeats 4000000 in
set_option maxRecDepth 100000 in
theorem c_X8_household (l : Launch) (D : va_G) (cy : Nat → ClassId) (G : p_GT) (hG : p_ok G) (S : PS) (a0 : Nat) (post : Int32 → PS → Prop) (sz : Nat) (hf : f_X8_household S a0 post) : p_Mi l D cy G S sz yX8_household (Cond.code yX8_household cX8_household 1 (some .int) :: wG) rm_X8_household [.ref a0] 0 0 post := by
  refine q_start hG (Qc := fun A => va_Qi post (p_Post D cy A) A) mf_X8_household (Nat.le_of_ble_eq_true rfl) (own := RX8) rfl ?_
  intro p e s m below meth c A X hr hlk hnm ls hl hH
  have hx := X.1.1
  have hb := X.1.2.1
  replace hl : lv_has ls 1 [(0, .ref a0)] := hl
  obtain ⟨H, hHe⟩ : ∃ H, H = s.heap := ⟨_, rfl⟩
  obtain ⟨locs, hlo⟩ : ∃ locs : List Loc, locs = [] := ⟨_, rfl⟩
  rw [← hHe, ← hlo] at hH
  show W p l e rm_X8_household s m [.ref a0].toArray below meth c s.heap [] 0 0 _ _
  rw [← hHe, ← hlo]
  refine lv_aload_n hx hb dX8_household_0 rfl (lv_at hl 0 rfl) ?_
  obtain ⟨hb1, hb2, hf⟩ := hf
  refine q_backV0 X hH (q_runV [] [] X hH hl (c_X8_begins l D cy G X.2.2.2.1 S a0 _ _ hf) mf_X8_begins mv_X8_begins tw_1701 ⟨Nat.le_of_ble_eq_true rfl, Nat.le_of_ble_eq_true rfl⟩ hb1 hb2 (T := TX8) (N := 25) rfl rfl (Nat.le_of_ble_eq_true rfl) dX8_household_1 ⟨Nat.le_of_ble_eq_true rfl, Nat.le_of_ble_eq_true rfl⟩) (fun S1 hf H locs hH => ?_)
  refine lv_aload_n hx hb dX8_household_4 rfl (lv_at hl 0 rfl) ?_
  refine lv_aload_n hx hb dX8_household_5 rfl (lv_at hl 0 rfl) ?_
  obtain ⟨hb1, hb2, hf⟩ := hf
  refine q_backI0 X hH (q_runV [] [.ref a0] X hH hl (c_X8_comes l D cy G X.2.2.2.1 S1 a0 _ _ hf) mf_X8_comes mv_X8_comes tw_1709 ⟨Nat.le_of_ble_eq_true rfl, Nat.le_of_ble_eq_true rfl⟩ hb1 hb2 (T := TX8) (N := 25) rfl rfl (Nat.le_of_ble_eq_true rfl) dX8_household_6 ⟨Nat.le_of_ble_eq_true rfl, Nat.le_of_ble_eq_true rfl⟩) (fun v4 S3 hf H locs hH => ?_)
  refine lv_iconst (v := 1) hx hb dX8_household_9 (by decide) ?_
  obtain ⟨hb1, hb2, hf⟩ := hf
  refine q_backI0 X hH (q_runV [.int v4, .int 1] [] X hH hl (c_X8_ends l D cy G X.2.2.2.1 S3 a0 v4 1 _ _ hf) mf_X8_ends mv_X8_ends tw_1721 ⟨Nat.le_of_ble_eq_true rfl, Nat.le_of_ble_eq_true rfl⟩ hb1 hb2 (T := TX8) (N := 25) rfl rfl (Nat.le_of_ble_eq_true rfl) dX8_household_10 ⟨Nat.le_of_ble_eq_true rfl, Nat.le_of_ble_eq_true rfl⟩) (fun v6 S5 hf H locs hH => ?_)
  exact q_retI X hH hr hlk hf (Nat.zero_le _) (Nat.zero_le _) dX8_household_13
