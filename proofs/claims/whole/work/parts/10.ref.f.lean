-- X8_parse
def f_X8_parse_J52 (post : PS → Prop) (S : PS) (l0 : Nat) : Prop :=
  gI S l0 12 19 fun v1 => (
  if 0 ≤ v1 then
    post S
  else
    gI S l0 12 18 fun v3 => (
    gI S l0 12 17 fun v4 => (
    if v4 ≤ v3 then
      post S
    else
      gI S l0 12 18 fun v6 => (
      pV S l0 12 19 (.int v6) fun S7 => (
      post S7)))))
def f_X8_parse_L19 (post : PS → Prop) : Nat → PS → Nat → Prop
  | 0, _, _ => False
  | n + 1, S, l0 =>
  gI S l0 12 19 fun v1 => (
  if 0 ≤ v1 then
    f_X8_parse_J52 post S l0
  else
    isO S l0 12 (
    f_X8_sign S l0 fun v4 S3 => (
    if v4 = 59 then
      gI S3 l0 12 18 fun v6 => (
      pV S3 l0 12 18 (.int (v6 + 1)) fun S7 => (
      isO S7 l0 12 (
      f_X8_order S7 l0 fun S8 => (
      (f_X8_parse_L19 post n) S8 l0))))
    else
      f_X8_parse_J52 post S3 l0)))
def f_X8_parse (S : PS) (a0 : Nat) (post : PS → Prop) : Prop :=
  pV S a0 12 18 (.int 0) fun S1 => (
  pV S1 a0 12 19 (.int ((-1))) fun S2 => (
  pV S2 a0 12 22 (.int 0) fun S3 => (
  isO S3 a0 12 (
  f_X8_order S3 a0 fun S4 => (
  f_X8_parse_L19 post 4096 S4 a0)))))
abbrev rm_X8_parse : Room := { frames := 5, cells := 0, slots := 0, locals := 108 }
set_option maxHeartbeats 4000000 in
set_option maxRecDepth 100000 in
theorem c_X8_parse (l : Launch) (D : va_G) (cy : Nat → ClassId) (G : p_GT) (hG : p_ok G) (S : PS) (a0 : Nat) (post : PS → Prop) (sz : Nat) (hf : f_X8_parse S a0 post) : p_Mv l D cy G S sz yX8_parse (Cond.code yX8_parse cX8_parse 1 none :: wG) rm_X8_parse [.ref a0] 0 0 post := by
  refine q_start hG (Qc := fun A => va_Qv post (p_Post D cy A) A) mf_X8_parse (Nat.le_of_ble_eq_true rfl) (own := RX8) rfl ?_
  intro p e s m below meth c A X hr hlk hnm ls hl hH
  have hx := X.1.1
  have hb := X.1.2.1
  replace hl : lv_has ls 1 [(0, .ref a0)] := hl
  obtain ⟨H, hHe⟩ : ∃ H, H = s.heap := ⟨_, rfl⟩
  obtain ⟨locs, hlo⟩ : ∃ locs : List Loc, locs = [] := ⟨_, rfl⟩
  rw [← hHe, ← hlo] at hH
  show W p l e rm_X8_parse s m [.ref a0].toArray below meth c s.heap [] 0 0 _ _
  rw [← hHe, ← hlo]
  have hL19 : ∀ (n19 : Nat) (S : PS) (l0 : Nat), f_X8_parse_L19 post n19 S l0 → ∀ (H : Heap) (locs : List Loc) (ls : Array Slot), p_H D cy S A s H locs → lv_has ls 1 [(0, .ref l0)] → W p l e rm_X8_parse s m [.ref a0].toArray below meth c H locs 0 0 (MQ below (va_Qv post (p_Post D cy A) A) [.ref a0].toArray s 0 0 A) (F0 m 19 ls []) := by
    intro n19
    induction n19 with
    | zero => intro S l0 hf; exact hf.elim
    | succ n19 ih19 =>
      intro S l0 hf H locs ls hH hl
      have hJ52 : ∀ (S : PS) (l0 : Nat), f_X8_parse_J52 post S l0 → ∀ (H : Heap) (locs : List Loc) (ls : Array Slot), p_H D cy S A s H locs → lv_has ls 1 [(0, .ref l0)] → W p l e rm_X8_parse s m [.ref a0].toArray below meth c H locs 0 0 (MQ below (va_Qv post (p_Post D cy A) A) [.ref a0].toArray s 0 0 A) (F0 m 52 ls []) := by
        intro S l0 hf H locs ls hH hl
        refine lv_aload_n hx hb dX8_parse_52 rfl (lv_at hl 0 rfl) ?_
        refine q_getI (T := TX8) (N := 25) X hH hf iw_X8 rfl (by decide) tw_1628 (fun _ h => h) dX8_parse_53 (fun v1 hf => ?_)
        refine lv_if_ge (tgt := 78) hx hb dX8_parse_56 (by decide) (fun c2 => ?_) (fun c2 => ?_)
        · have hf := (if_pos c2).mp hf
          exact q_retV X hH hr hlk hf (Nat.zero_le _) (Nat.zero_le _) dX8_parse_78
        · have hf := (if_neg c2).mp hf
          refine lv_aload_n hx hb dX8_parse_59 rfl (lv_at hl 0 rfl) ?_
          refine q_getI (T := TX8) (N := 25) X hH hf iw_X8 rfl (by decide) tw_1627 (fun _ h => h) dX8_parse_60 (fun v3 hf => ?_)
          refine lv_aload_n hx hb dX8_parse_63 rfl (lv_at hl 0 rfl) ?_
          refine q_getI (T := TX8) (N := 25) X hH hf iw_X8 rfl (by decide) tw_1626 (fun _ h => h) dX8_parse_64 (fun v4 hf => ?_)
          refine lv_icmp_ge (tgt := 78) hx hb dX8_parse_67 (by decide) (fun c5 => ?_) (fun c5 => ?_)
          · have hf := (if_pos c5).mp hf
            exact q_retV X hH hr hlk hf (Nat.zero_le _) (Nat.zero_le _) dX8_parse_78
          · have hf := (if_neg c5).mp hf
            refine lv_aload_n hx hb dX8_parse_70 rfl (lv_at hl 0 rfl) ?_
            refine lv_aload_n hx hb dX8_parse_71 rfl (lv_at hl 0 rfl) ?_
            refine q_getI (T := TX8) (N := 25) X hH hf iw_X8 rfl (by decide) tw_1627 (fun _ h => h) dX8_parse_72 (fun v6 hf => ?_)
            refine q_putV (T := TX8) (N := 25) (ty0 := tyX8) (ty := tyX8 19) X hH hf iw_X8 tyX8_ok nmX8 rfl (by decide) tw_1628 (fun _ h => h) rfl (tyX8_ok 19 (by decide)) rfl rfl dX8_parse_75 (fun S7 hf H locs hH => ?_)
            exact q_retV X hH hr hlk hf (Nat.zero_le _) (Nat.zero_le _) dX8_parse_78
      refine lv_aload_n hx hb dX8_parse_19 rfl (lv_at hl 0 rfl) ?_
      refine q_getI (T := TX8) (N := 25) X hH hf iw_X8 rfl (by decide) tw_1628 (fun _ h => h) dX8_parse_20 (fun v1 hf => ?_)
      refine lv_if_ge (tgt := 52) hx hb dX8_parse_23 (by decide) (fun c2 => ?_) (fun c2 => ?_)
      · have hf := (if_pos c2).mp hf
        exact hJ52 S l0 hf H locs ls hH hl
      · have hf := (if_neg c2).mp hf
        refine lv_aload_n hx hb dX8_parse_26 rfl (lv_at hl 0 rfl) ?_
        obtain ⟨hb1, hb2, hf⟩ := hf
        refine q_backI0 X hH (q_runV [] [] X hH hl (c_X8_sign l D cy G X.2.2.2.1 S l0 _ _ hf) mf_X8_sign mv_X8_sign tw_2008 ⟨Nat.le_of_ble_eq_true rfl, Nat.le_of_ble_eq_true rfl⟩ hb1 hb2 (T := TX8) (N := 25) rfl rfl (Nat.le_of_ble_eq_true rfl) dX8_parse_27 ⟨Nat.le_of_ble_eq_true rfl, Nat.le_of_ble_eq_true rfl⟩) (fun v4 S3 hf H locs hH => ?_)
        refine lv_bipush (v := 59) hx hb dX8_parse_30 (by decide) ?_
        refine lv_icmp_ne (tgt := 52) hx hb dX8_parse_32 (by decide) (fun c5 => ?_) (fun c5 => ?_)
        · have hf := (if_neg c5).mp hf
          exact hJ52 S3 l0 hf H locs ls hH hl
        · have hf := (if_pos c5).mp hf
          refine lv_aload_n hx hb dX8_parse_35 rfl (lv_at hl 0 rfl) ?_
          refine lv_dup hx hb dX8_parse_36 rfl ?_
          refine q_getI (T := TX8) (N := 25) X hH hf iw_X8 rfl (by decide) tw_1627 (fun _ h => h) dX8_parse_37 (fun v6 hf => ?_)
          refine lv_iconst (v := 1) hx hb dX8_parse_40 (by decide) ?_
          refine lv_iadd hx hb dX8_parse_41 ?_
          refine q_putV (T := TX8) (N := 25) (ty0 := tyX8) (ty := tyX8 18) X hH hf iw_X8 tyX8_ok nmX8 rfl (by decide) tw_1627 (fun _ h => h) rfl (tyX8_ok 18 (by decide)) rfl rfl dX8_parse_42 (fun S7 hf H locs hH => ?_)
          refine lv_aload_n hx hb dX8_parse_45 rfl (lv_at hl 0 rfl) ?_
          obtain ⟨hb1, hb2, hf⟩ := hf
          refine q_backV0 X hH (q_runV [] [] X hH hl (c_X8_order l D cy G X.2.2.2.1 S7 l0 _ _ hf) mf_X8_order mv_X8_order tw_2004 ⟨Nat.le_of_ble_eq_true rfl, Nat.le_of_ble_eq_true rfl⟩ hb1 hb2 (T := TX8) (N := 25) rfl rfl (Nat.le_of_ble_eq_true rfl) dX8_parse_46 ⟨Nat.le_of_ble_eq_true rfl, Nat.le_of_ble_eq_true rfl⟩) (fun S8 hf H locs hH => ?_)
          refine lv_goto (tgt := 19) hx hb dX8_parse_49 (by decide) ?_
          exact ih19 S8 l0 hf H locs ls hH hl
  refine lv_aload_n hx hb dX8_parse_0 rfl (lv_at hl 0 rfl) ?_
  refine lv_iconst (v := 0) hx hb dX8_parse_1 (by decide) ?_
  refine q_putV (T := TX8) (N := 25) (ty0 := tyX8) (ty := tyX8 18) X hH hf iw_X8 tyX8_ok nmX8 rfl (by decide) tw_1627 (fun _ h => h) rfl (tyX8_ok 18 (by decide)) rfl rfl dX8_parse_2 (fun S1 hf H locs hH => ?_)
  refine lv_aload_n hx hb dX8_parse_5 rfl (lv_at hl 0 rfl) ?_
  refine lv_iconst (v := (-1)) hx hb dX8_parse_6 (by decide) ?_
  refine q_putV (T := TX8) (N := 25) (ty0 := tyX8) (ty := tyX8 19) X hH hf iw_X8 tyX8_ok nmX8 rfl (by decide) tw_1628 (fun _ h => h) rfl (tyX8_ok 19 (by decide)) rfl rfl dX8_parse_7 (fun S2 hf H locs hH => ?_)
  refine lv_aload_n hx hb dX8_parse_10 rfl (lv_at hl 0 rfl) ?_
  refine lv_iconst (v := 0) hx hb dX8_parse_11 (by decide) ?_
  refine q_putV (T := TX8) (N := 25) (ty0 := tyX8) (ty := tyX8 22) X hH hf iw_X8 tyX8_ok nmX8 rfl (by decide) tw_1631 (fun _ h => h) rfl (tyX8_ok 22 (by decide)) rfl rfl dX8_parse_12 (fun S3 hf H locs hH => ?_)
  refine lv_aload_n hx hb dX8_parse_15 rfl (lv_at hl 0 rfl) ?_
  obtain ⟨hb1, hb2, hf⟩ := hf
  refine q_backV0 X hH (q_runV [] [] X hH hl (c_X8_order l D cy G X.2.2.2.1 S3 a0 _ _ hf) mf_X8_order mv_X8_order tw_2004 ⟨Nat.le_of_ble_eq_true rfl, Nat.le_of_ble_eq_true rfl⟩ hb1 hb2 (T := TX8) (N := 25) rfl rfl (Nat.le_of_ble_eq_true rfl) dX8_parse_16 ⟨Nat.le_of_ble_eq_true rfl, Nat.le_of_ble_eq_true rfl⟩) (fun S4 hf H locs hH => ?_)
  exact hL19 4096 S4 a0 hf H locs ls hH hl
-- X8_faultPosition
def f_X8_faultPosition (S : PS) (a0 : Nat) (post : Int32 → PS → Prop) : Prop :=
  pV S a0 12 0 (.int 0) fun S1 => (
  gI S1 a0 12 20 fun v2 => (
  post v2 S1))
abbrev rm_X8_faultPosition : Room := { frames := 0, cells := 0, slots := 0, locals := 0 }
set_option maxHeartbeats 4000000 in
set_option maxRecDepth 100000 in
theorem c_X8_faultPosition (l : Launch) (D : va_G) (cy : Nat → ClassId) (G : p_GT) (hG : p_ok G) (S : PS) (a0 : Nat) (post : Int32 → PS → Prop) (sz : Nat) (hf : f_X8_faultPosition S a0 post) : p_Mi l D cy G S sz yX8_faultPosition (Cond.code yX8_faultPosition cX8_faultPosition 1 (some .int) :: wG) rm_X8_faultPosition [.ref a0] 0 0 post := by
  refine q_start hG (Qc := fun A => va_Qi post (p_Post D cy A) A) mf_X8_faultPosition (Nat.le_of_ble_eq_true rfl) (own := RX8) rfl ?_
  intro p e s m below meth c A X hr hlk hnm ls hl hH
  have hx := X.1.1
  have hb := X.1.2.1
  replace hl : lv_has ls 1 [(0, .ref a0)] := hl
  obtain ⟨H, hHe⟩ : ∃ H, H = s.heap := ⟨_, rfl⟩
  obtain ⟨locs, hlo⟩ : ∃ locs : List Loc, locs = [] := ⟨_, rfl⟩
  rw [← hHe, ← hlo] at hH
  show W p l e rm_X8_faultPosition s m [.ref a0].toArray below meth c s.heap [] 0 0 _ _
  rw [← hHe, ← hlo]
  refine lv_aload_n hx hb dX8_faultPosition_0 rfl (lv_at hl 0 rfl) ?_
  refine lv_iconst (v := 0) hx hb dX8_faultPosition_1 (by decide) ?_
  refine q_putV (T := TX8) (N := 25) (ty0 := tyX8) (ty := tyX8 0) X hH hf iw_X8 tyX8_ok nmX8 rfl (by decide) tw_1609 (fun _ h => h) rfl (tyX8_ok 0 (by decide)) rfl rfl dX8_faultPosition_2 (fun S1 hf H locs hH => ?_)
  refine lv_aload_n hx hb dX8_faultPosition_5 rfl (lv_at hl 0 rfl) ?_
  refine q_getI (T := TX8) (N := 25) X hH hf iw_X8 rfl (by decide) tw_1629 (fun _ h => h) dX8_faultPosition_6 (fun v2 hf => ?_)
  exact q_retI X hH hr hlk hf (Nat.zero_le _) (Nat.zero_le _) dX8_faultPosition_9
-- X8_writes
def f_X8_writes (S : PS) (a0 : Nat) (a1 : Int32) (post : PS → Prop) : Prop :=
  gR S a0 12 23 fun v1 => (
  gI S a0 12 24 fun v2 => (
  sI S v1 2 v2 (vp_nar .char ((a1.toUInt32 % 65536).toInt32)) fun S3 => (
  gI S3 a0 12 24 fun v4 => (
  pV S3 a0 12 24 (.int (v4 + 1)) fun S5 => (
  post S5)))))
abbrev rm_X8_writes : Room := { frames := 0, cells := 0, slots := 0, locals := 0 }
set_option maxHeartbeats 4000000 in
set_option maxRecDepth 100000 in
theorem c_X8_writes (l : Launch) (D : va_G) (cy : Nat → ClassId) (G : p_GT) (hG : p_ok G) (S : PS) (a0 : Nat) (a1 : Int32) (post : PS → Prop) (sz : Nat) (hf : f_X8_writes S a0 a1 post) : p_Mv l D cy G S sz yX8_writes (Cond.code yX8_writes cX8_writes 2 none :: wG) rm_X8_writes [.ref a0, .int a1] 0 0 post := by
  refine q_start hG (Qc := fun A => va_Qv post (p_Post D cy A) A) mf_X8_writes (Nat.le_of_ble_eq_true rfl) (own := RX8) rfl ?_
  intro p e s m below meth c A X hr hlk hnm ls hl hH
  have hx := X.1.1
  have hb := X.1.2.1
  replace hl : lv_has ls 2 [(0, .ref a0), (1, .int a1)] := hl
  obtain ⟨H, hHe⟩ : ∃ H, H = s.heap := ⟨_, rfl⟩
  obtain ⟨locs, hlo⟩ : ∃ locs : List Loc, locs = [] := ⟨_, rfl⟩
  rw [← hHe, ← hlo] at hH
  show W p l e rm_X8_writes s m [.ref a0, .int a1].toArray below meth c s.heap [] 0 0 _ _
  rw [← hHe, ← hlo]
  refine lv_aload_n hx hb dX8_writes_0 rfl (lv_at hl 0 rfl) ?_
  refine q_getR (T := TX8) (N := 25) X hH hf iw_X8 rfl (by decide) tw_1632 (fun _ h => h) dX8_writes_1 (fun v1 hf => ?_)
  refine lv_aload_n hx hb dX8_writes_4 rfl (lv_at hl 0 rfl) ?_
  refine q_getI (T := TX8) (N := 25) X hH hf iw_X8 rfl (by decide) tw_1633 (fun _ h => h) dX8_writes_5 (fun v2 hf => ?_)
  refine lv_iload_n hx hb dX8_writes_8 rfl (lv_at hl 1 rfl) ?_
  refine lv_i2c (v := (a1.toUInt32 % 65536).toInt32) hx hb dX8_writes_9 rfl ?_
  refine q_cast X hH hf dX8_writes_10 (fun S3 hf H locs hH => ?_)
  refine lv_aload_n hx hb dX8_writes_11 rfl (lv_at hl 0 rfl) ?_
  refine lv_dup hx hb dX8_writes_12 rfl ?_
  refine q_getI (T := TX8) (N := 25) X hH hf iw_X8 rfl (by decide) tw_1633 (fun _ h => h) dX8_writes_13 (fun v4 hf => ?_)
  refine lv_iconst (v := 1) hx hb dX8_writes_16 (by decide) ?_
  refine lv_iadd hx hb dX8_writes_17 ?_
  refine q_putV (T := TX8) (N := 25) (ty0 := tyX8) (ty := tyX8 24) X hH hf iw_X8 tyX8_ok nmX8 rfl (by decide) tw_1633 (fun _ h => h) rfl (tyX8_ok 24 (by decide)) rfl rfl dX8_writes_18 (fun S5 hf H locs hH => ?_)
  exact q_retV X hH hr hlk hf (Nat.zero_le _) (Nat.zero_le _) dX8_writes_21
-- X8_writesNumber
def f_X8_writesNumber_J14 (post : PS → Prop) (S : PS) (l0 : Nat) (l1 : Int32) : Prop :=
  (¬ (10 : Int32) = 0) ∧ (
  isO S l0 12 (
  f_X8_writes S l0 ((48 : Int32) + (l1 - l1 / 10 * 10)) fun S1 => (
  post S1)))
def f_X8_writesNumber : Nat → PS → Nat → Int32 → (PS → Prop) → Prop
  | 0, _, _, _, _ => False
  | n + 1, S, a0, a1, post =>
  if a1 ≤ 9 then
    f_X8_writesNumber_J14 post S a0 a1
  else
    (¬ (10 : Int32) = 0) ∧ (
    isO S a0 12 (
    f_X8_writesNumber n S a0 (a1 / 10) fun S2 => (
    f_X8_writesNumber_J14 post S2 a0 a1)))
abbrev rm_X8_writesNumber (n : Nat) : Room := { frames := n + 1, cells := 0, slots := 0, locals := n * 21 + 21 }
set_option maxHeartbeats 4000000 in
set_option maxRecDepth 100000 in
theorem c_X8_writesNumber (l : Launch) (D : va_G) (cy : Nat → ClassId) (G : p_GT) (hG : p_ok G) : ∀ (n : Nat) (S : PS) (a0 : Nat) (a1 : Int32) (post : PS → Prop) (sz : Nat) (hf : f_X8_writesNumber n S a0 a1 post), p_Mv l D cy G S sz yX8_writesNumber (Cond.code yX8_writesNumber cX8_writesNumber 2 none :: wG) (rm_X8_writesNumber n) [.ref a0, .int a1] 0 0 post := by
  intro n
  induction n with
  | zero => intro S a0 a1 post sz hf; exact hf.elim
  | succ n ih =>
  intro S a0 a1 post sz hf
  refine q_start hG (Qc := fun A => va_Qv post (p_Post D cy A) A) mf_X8_writesNumber (Nat.le_of_ble_eq_true rfl) (own := RX8) rfl ?_
  intro p e s m below meth c A X hr hlk hnm ls hl hH
  have hx := X.1.1
  have hb := X.1.2.1
  replace hl : lv_has ls 2 [(0, .ref a0), (1, .int a1)] := hl
  obtain ⟨H, hHe⟩ : ∃ H, H = s.heap := ⟨_, rfl⟩
  obtain ⟨locs, hlo⟩ : ∃ locs : List Loc, locs = [] := ⟨_, rfl⟩
  rw [← hHe, ← hlo] at hH
  show W p l e (rm_X8_writesNumber (n + 1)) s m [.ref a0, .int a1].toArray below meth c s.heap [] 0 0 _ _
  rw [← hHe, ← hlo]
  have hJ14 : ∀ (S : PS) (l0 : Nat) (l1 : Int32), f_X8_writesNumber_J14 post S l0 l1 → ∀ (H : Heap) (locs : List Loc) (ls : Array Slot), p_H D cy S A s H locs → lv_has ls 2 [(0, .ref l0), (1, .int l1)] → W p l e (rm_X8_writesNumber (n + 1)) s m [.ref a0, .int a1].toArray below meth c H locs 0 0 (MQ below (va_Qv post (p_Post D cy A) A) [.ref a0, .int a1].toArray s 0 0 A) (F0 m 14 ls []) := by
    intro S l0 l1 hf H locs ls hH hl
    refine lv_aload_n hx hb dX8_writesNumber_14 rfl (lv_at hl 0 rfl) ?_
    refine lv_bipush (v := 48) hx hb dX8_writesNumber_15 (by decide) ?_
    refine lv_iload_n hx hb dX8_writesNumber_17 rfl (lv_at hl 1 rfl) ?_
    refine lv_bipush (v := 10) hx hb dX8_writesNumber_18 (by decide) ?_
    refine lv_irem hx hb dX8_writesNumber_20 hf.1 ?_
    have hf := hf.2
    refine lv_iadd hx hb dX8_writesNumber_21 ?_
    obtain ⟨hb1, hb2, hf⟩ := hf
    refine q_backV0 X hH (q_runV [.int ((48 : Int32) + (l1 - l1 / 10 * 10))] [] X hH hl (c_X8_writes l D cy G X.2.2.2.1 S l0 ((48 : Int32) + (l1 - l1 / 10 * 10)) _ _ hf) mf_X8_writes mv_X8_writes tw_2040 ⟨by simp only [rm_X8_writesNumber, rm_X8_writes]; omega, by simp only [rm_X8_writesNumber, rm_X8_writes]; omega⟩ hb1 hb2 (T := TX8) (N := 25) rfl rfl (Nat.le_of_ble_eq_true rfl) dX8_writesNumber_22 ⟨Nat.le_of_ble_eq_true rfl, Nat.le_of_ble_eq_true rfl⟩) (fun S1 hf H locs hH => ?_)
    exact q_retV X hH hr hlk hf (Nat.zero_le _) (Nat.zero_le _) dX8_writesNumber_25
  refine lv_iload_n hx hb dX8_writesNumber_0 rfl (lv_at hl 1 rfl) ?_
  refine lv_bipush (v := 9) hx hb dX8_writesNumber_1 (by decide) ?_
  refine lv_icmp_le (tgt := 14) hx hb dX8_writesNumber_3 (by decide) (fun c1 => ?_) (fun c1 => ?_)
  · have hf := (if_pos c1).mp hf
    exact hJ14 S a0 a1 hf H locs ls hH hl
  · have hf := (if_neg c1).mp hf
    refine lv_aload_n hx hb dX8_writesNumber_6 rfl (lv_at hl 0 rfl) ?_
    refine lv_iload_n hx hb dX8_writesNumber_7 rfl (lv_at hl 1 rfl) ?_
    refine lv_bipush (v := 10) hx hb dX8_writesNumber_8 (by decide) ?_
    refine lv_idiv hx hb dX8_writesNumber_10 hf.1 ?_
    have hf := hf.2
    obtain ⟨hb1, hb2, hf⟩ := hf
    refine q_backV0 X hH (q_runV [.int (a1 / 10)] [] X hH hl (ih S a0 (a1 / 10) _ _ hf) mf_X8_writesNumber mv_X8_writesNumber tw_2044 ⟨by simp only [rm_X8_writesNumber, rm_X8_writesNumber]; omega, by simp only [rm_X8_writesNumber, rm_X8_writesNumber]; omega⟩ hb1 hb2 (T := TX8) (N := 25) rfl rfl (Nat.le_of_ble_eq_true rfl) dX8_writesNumber_11 ⟨Nat.le_of_ble_eq_true rfl, Nat.le_of_ble_eq_true rfl⟩) (fun S2 hf H locs hH => ?_)
    exact hJ14 S2 a0 a1 hf H locs ls hH hl
-- X8_writesSet
def f_X8_writesSet_J28 (post : PS → Prop) (g2 : PS → Nat → Int32 → Int32 → Prop) (S : PS) (l0 : Nat) (l1 : Int32) (l2 : Int32) : Prop :=
  g2 S l0 l1 (l2 + 1)
def f_X8_writesSet_L2 (post : PS → Prop) : Nat → PS → Nat → Int32 → Int32 → Prop
  | 0, _, _, _, _ => False
  | n + 1, S, l0, l1, l2 =>
  gR S l0 12 1 fun v1 => (
  aI S v1 0 0 fun v2 => (
  if v2 ≤ l2 then
    post S
  else
    f_X8_holds S l1 l2 fun v5 S4 => (
    if v5 = 0 then
      f_X8_writesSet_J28 post (f_X8_writesSet_L2 post n) S4 l0 l1 l2
    else
      isO S4 l0 12 (
      f_X8_writes S4 l0 ((48 : Int32) + l2) fun S7 => (
      f_X8_writesSet_J28 post (f_X8_writesSet_L2 post n) S7 l0 l1 l2)))))
def f_X8_writesSet (S : PS) (a0 : Nat) (a1 : Int32) (post : PS → Prop) : Prop :=
  f_X8_writesSet_L2 post 4096 S a0 a1 0
abbrev rm_X8_writesSet : Room := { frames := 1, cells := 0, slots := 0, locals := 21 }
set_option maxHeartbeats 4000000 in
set_option maxRecDepth 100000 in
theorem c_X8_writesSet (l : Launch) (D : va_G) (cy : Nat → ClassId) (G : p_GT) (hG : p_ok G) (S : PS) (a0 : Nat) (a1 : Int32) (post : PS → Prop) (sz : Nat) (hf : f_X8_writesSet S a0 a1 post) : p_Mv l D cy G S sz yX8_writesSet (Cond.code yX8_writesSet cX8_writesSet 3 none :: wG) rm_X8_writesSet [.ref a0, .int a1] 0 0 post := by
  refine q_start hG (Qc := fun A => va_Qv post (p_Post D cy A) A) mf_X8_writesSet (Nat.le_of_ble_eq_true rfl) (own := RX8) rfl ?_
  intro p e s m below meth c A X hr hlk hnm ls hl hH
  have hx := X.1.1
  have hb := X.1.2.1
  replace hl : lv_has ls 3 [(0, .ref a0), (1, .int a1)] := hl
  obtain ⟨H, hHe⟩ : ∃ H, H = s.heap := ⟨_, rfl⟩
  obtain ⟨locs, hlo⟩ : ∃ locs : List Loc, locs = [] := ⟨_, rfl⟩
  rw [← hHe, ← hlo] at hH
  show W p l e rm_X8_writesSet s m [.ref a0, .int a1].toArray below meth c s.heap [] 0 0 _ _
  rw [← hHe, ← hlo]
  have hL2 : ∀ (n2 : Nat) (S : PS) (l0 : Nat) (l1 : Int32) (l2 : Int32), f_X8_writesSet_L2 post n2 S l0 l1 l2 → ∀ (H : Heap) (locs : List Loc) (ls : Array Slot), p_H D cy S A s H locs → lv_has ls 3 [(0, .ref l0), (1, .int l1), (2, .int l2)] → W p l e rm_X8_writesSet s m [.ref a0, .int a1].toArray below meth c H locs 0 0 (MQ below (va_Qv post (p_Post D cy A) A) [.ref a0, .int a1].toArray s 0 0 A) (F0 m 2 ls []) := by
    intro n2
    induction n2 with
    | zero => intro S l0 l1 l2 hf; exact hf.elim
    | succ n2 ih2 =>
      intro S l0 l1 l2 hf H locs ls hH hl
      have hJ28 : ∀ (S : PS) (l0 : Nat) (l1 : Int32) (l2 : Int32), f_X8_writesSet_J28 post (f_X8_writesSet_L2 post n2) S l0 l1 l2 → ∀ (H : Heap) (locs : List Loc) (ls : Array Slot), p_H D cy S A s H locs → lv_has ls 3 [(0, .ref l0), (1, .int l1), (2, .int l2)] → W p l e rm_X8_writesSet s m [.ref a0, .int a1].toArray below meth c H locs 0 0 (MQ below (va_Qv post (p_Post D cy A) A) [.ref a0, .int a1].toArray s 0 0 A) (F0 m 28 ls []) := by
        intro S l0 l1 l2 hf H locs ls hH hl
        refine lv_iinc (v := l2 + 1) (lv' := [(2, .int (l2 + 1)), (0, .ref l0), (1, .int l1)]) hx hb dX8_writesSet_28 hl (k := 2) rfl rfl (by decide) rfl (fun ls hl => ?_)
        refine lv_goto (tgt := 2) hx hb dX8_writesSet_31 (by decide) ?_
        exact ih2 S l0 l1 (l2 + 1) hf H locs ls hH (lv_sub hl [1, 2, 0] rfl)
      refine lv_iload_n hx hb dX8_writesSet_2 rfl (lv_at hl 2 rfl) ?_
      refine lv_aload_n hx hb dX8_writesSet_3 rfl (lv_at hl 0 rfl) ?_
      refine q_getR (T := TX8) (N := 25) X hH hf iw_X8 rfl (by decide) tw_1610 (fun _ h => h) dX8_writesSet_4 (fun v1 hf => ?_)
      refine lv_iconst (v := 0) hx hb dX8_writesSet_7 (by decide) ?_
      refine q_iald X hH hf dX8_writesSet_8 (fun v2 hf => ?_)
      refine lv_icmp_ge (tgt := 34) hx hb dX8_writesSet_9 (by decide) (fun c3 => ?_) (fun c3 => ?_)
      · have hf := (if_pos c3).mp hf
        exact q_retV X hH hr hlk hf (Nat.zero_le _) (Nat.zero_le _) dX8_writesSet_34
      · have hf := (if_neg c3).mp hf
        refine lv_iload_n hx hb dX8_writesSet_12 rfl (lv_at hl 1 rfl) ?_
        refine lv_iload_n hx hb dX8_writesSet_13 rfl (lv_at hl 2 rfl) ?_
        refine q_backI0 X hH (q_runS [.int l1, .int l2] [] X hH hl (c_X8_holds l D cy G X.2.2.2.1 S l1 l2 _ _ hf) mf_X8_holds tw_1810 tw_1809 ⟨Nat.le_of_ble_eq_true rfl, Nat.le_of_ble_eq_true rfl⟩ rfl (Nat.le_of_ble_eq_true rfl) dX8_writesSet_14 ⟨Nat.le_of_ble_eq_true rfl, Nat.le_of_ble_eq_true rfl⟩) (fun v5 S4 hf H locs hH => ?_)
        refine lv_if_eq (tgt := 28) hx hb dX8_writesSet_17 (by decide) (fun c6 => ?_) (fun c6 => ?_)
        · have hf := (if_pos c6).mp hf
          exact hJ28 S4 l0 l1 l2 hf H locs ls hH hl
        · have hf := (if_neg c6).mp hf
          refine lv_aload_n hx hb dX8_writesSet_20 rfl (lv_at hl 0 rfl) ?_
          refine lv_bipush (v := 48) hx hb dX8_writesSet_21 (by decide) ?_
          refine lv_iload_n hx hb dX8_writesSet_23 rfl (lv_at hl 2 rfl) ?_
          refine lv_iadd hx hb dX8_writesSet_24 ?_
          obtain ⟨hb1, hb2, hf⟩ := hf
          refine q_backV0 X hH (q_runV [.int ((48 : Int32) + l2)] [] X hH hl (c_X8_writes l D cy G X.2.2.2.1 S4 l0 ((48 : Int32) + l2) _ _ hf) mf_X8_writes mv_X8_writes tw_2040 ⟨Nat.le_of_ble_eq_true rfl, Nat.le_of_ble_eq_true rfl⟩ hb1 hb2 (T := TX8) (N := 25) rfl rfl (Nat.le_of_ble_eq_true rfl) dX8_writesSet_25 ⟨Nat.le_of_ble_eq_true rfl, Nat.le_of_ble_eq_true rfl⟩) (fun S7 hf H locs hH => ?_)
          exact hJ28 S7 l0 l1 l2 hf H locs ls hH hl
  refine lv_iconst (v := 0) hx hb dX8_writesSet_0 (by decide) ?_
  refine lv_istore_n (lv' := [(2, .int 0), (0, .ref a0), (1, .int a1)]) hx hb dX8_writesSet_1 rfl hl (by decide) rfl (fun ls hl => ?_)
  exact hL2 4096 S a0 a1 0 hf H locs ls hH (lv_sub hl [1, 2, 0] rfl)
-- X8_tell
def f_X8_tell_J88 (post : Int32 → PS → Prop) (S : PS) (l0 : Nat) : Prop :=
  gI S l0 12 24 fun v1 => (
  post v1 S)
def f_X8_tell_J38 (post : Int32 → PS → Prop) (g17 : PS → Nat → Int32 → Int32 → Prop) (S : PS) (l0 : Nat) (l1 : Int32) (l2 : Int32) (l3 : Int32) : Prop :=
  (¬ (10 : Int32) = 0) ∧ (
  isO S l0 12 (
  f_X8_writes S l0 ((48 : Int32) + (l3 / 10)) fun S1 => (
  (¬ (10 : Int32) = 0) ∧ (
  isO S1 l0 12 (
  f_X8_writes S1 l0 ((48 : Int32) + (l3 - l3 / 10 * 10)) fun S3 => (
  isO S3 l0 12 (
  f_X8_writes S3 l0 61 fun S5 => (
  (¬ (10 : Int32) = 0) ∧ (
  (¬ (10 : Int32) = 0) ∧ (
  isO S5 l0 12 (
  f_X8_w S5 l0 (l3 / 10) (l3 - l3 / 10 * 10) fun v8 S7 => (
  isO S7 l0 12 (
  f_X8_writesNumber 12 S7 l0 v8 fun S9 => (
  g17 S9 l0 l1 (l2 + 1)))))))))))))))
def f_X8_tell_L17 (post : Int32 → PS → Prop) : Nat → PS → Nat → Int32 → Int32 → Prop
  | 0, _, _, _, _ => False
  | n + 1, S, l0, l1, l2 =>
  if l1 ≤ l2 then
    f_X8_tell_J88 post S l0
  else
    isO S l0 12 (
    f_X8_bondWith S l0 l2 fun v3 S2 => (
    if l2 ≤ 0 then
      f_X8_tell_J38 post (f_X8_tell_L17 post n) S2 l0 l1 l2 v3
    else
      isO S2 l0 12 (
      f_X8_writes S2 l0 32 fun S5 => (
      f_X8_tell_J38 post (f_X8_tell_L17 post n) S5 l0 l1 l2 v3))))
def f_X8_tell (S : PS) (a0 : Nat) (post : Int32 → PS → Prop) : Prop :=
  pV S a0 12 0 (.int 0) fun S1 => (
  pV S1 a0 12 24 (.int 0) fun S2 => (
  isO S2 a0 12 (
  f_X8_bondMany S2 a0 fun v4 S3 => (
  f_X8_tell_L17 post 4096 S3 a0 v4 0))))
abbrev rm_X8_tell : Room := { frames := 14, cells := 0, slots := 0, locals := 294 }
set_option maxHeartbeats 4000000 in
set_option maxRecDepth 100000 in
theorem c_X8_tell (l : Launch) (D : va_G) (cy : Nat → ClassId) (G : p_GT) (hG : p_ok G) (S : PS) (a0 : Nat) (post : Int32 → PS → Prop) (sz : Nat) (hf : f_X8_tell S a0 post) : p_Mi l D cy G S sz yX8_tell (Cond.code yX8_tell cX8_tell 4 (some .int) :: wG) rm_X8_tell [.ref a0] 0 0 post := by
  refine q_start hG (Qc := fun A => va_Qi post (p_Post D cy A) A) mf_X8_tell (Nat.le_of_ble_eq_true rfl) (own := RX8) rfl ?_
  intro p e s m below meth c A X hr hlk hnm ls hl hH
  have hx := X.1.1
  have hb := X.1.2.1
  replace hl : lv_has ls 4 [(0, .ref a0)] := hl
  obtain ⟨H, hHe⟩ : ∃ H, H = s.heap := ⟨_, rfl⟩
  obtain ⟨locs, hlo⟩ : ∃ locs : List Loc, locs = [] := ⟨_, rfl⟩
  rw [← hHe, ← hlo] at hH
  show W p l e rm_X8_tell s m [.ref a0].toArray below meth c s.heap [] 0 0 _ _
  rw [← hHe, ← hlo]
  have hL17 : ∀ (n17 : Nat) (S : PS) (l0 : Nat) (l1 : Int32) (l2 : Int32), f_X8_tell_L17 post n17 S l0 l1 l2 → ∀ (H : Heap) (locs : List Loc) (ls : Array Slot), p_H D cy S A s H locs → lv_has ls 4 [(0, .ref l0), (1, .int l1), (2, .int l2)] → W p l e rm_X8_tell s m [.ref a0].toArray below meth c H locs 0 0 (MQ below (va_Qi post (p_Post D cy A) A) [.ref a0].toArray s 0 0 A) (F0 m 17 ls []) := by
    intro n17
    induction n17 with
    | zero => intro S l0 l1 l2 hf; exact hf.elim
    | succ n17 ih17 =>
      intro S l0 l1 l2 hf H locs ls hH hl
      have hJ88 : ∀ (S : PS) (l0 : Nat), f_X8_tell_J88 post S l0 → ∀ (H : Heap) (locs : List Loc) (ls : Array Slot), p_H D cy S A s H locs → lv_has ls 4 [(0, .ref l0)] → W p l e rm_X8_tell s m [.ref a0].toArray below meth c H locs 0 0 (MQ below (va_Qi post (p_Post D cy A) A) [.ref a0].toArray s 0 0 A) (F0 m 88 ls []) := by
        intro S l0 hf H locs ls hH hl
        refine lv_aload_n hx hb dX8_tell_88 rfl (lv_at hl 0 rfl) ?_
        refine q_getI (T := TX8) (N := 25) X hH hf iw_X8 rfl (by decide) tw_1633 (fun _ h => h) dX8_tell_89 (fun v1 hf => ?_)
        exact q_retI X hH hr hlk hf (Nat.zero_le _) (Nat.zero_le _) dX8_tell_92
      have hJ38 : ∀ (S : PS) (l0 : Nat) (l1 : Int32) (l2 : Int32) (l3 : Int32), f_X8_tell_J38 post (f_X8_tell_L17 post n17) S l0 l1 l2 l3 → ∀ (H : Heap) (locs : List Loc) (ls : Array Slot), p_H D cy S A s H locs → lv_has ls 4 [(0, .ref l0), (1, .int l1), (2, .int l2), (3, .int l3)] → W p l e rm_X8_tell s m [.ref a0].toArray below meth c H locs 0 0 (MQ below (va_Qi post (p_Post D cy A) A) [.ref a0].toArray s 0 0 A) (F0 m 38 ls []) := by
        intro S l0 l1 l2 l3 hf H locs ls hH hl
        refine lv_aload_n hx hb dX8_tell_38 rfl (lv_at hl 0 rfl) ?_
        refine lv_bipush (v := 48) hx hb dX8_tell_39 (by decide) ?_
        refine lv_iload_n hx hb dX8_tell_41 rfl (lv_at hl 3 rfl) ?_
        refine lv_bipush (v := 10) hx hb dX8_tell_42 (by decide) ?_
        refine lv_idiv hx hb dX8_tell_44 hf.1 ?_
        have hf := hf.2
        refine lv_iadd hx hb dX8_tell_45 ?_
        obtain ⟨hb1, hb2, hf⟩ := hf
        refine q_backV0 X hH (q_runV [.int ((48 : Int32) + (l3 / 10))] [] X hH hl (c_X8_writes l D cy G X.2.2.2.1 S l0 ((48 : Int32) + (l3 / 10)) _ _ hf) mf_X8_writes mv_X8_writes tw_2040 ⟨Nat.le_of_ble_eq_true rfl, Nat.le_of_ble_eq_true rfl⟩ hb1 hb2 (T := TX8) (N := 25) rfl rfl (Nat.le_of_ble_eq_true rfl) dX8_tell_46 ⟨Nat.le_of_ble_eq_true rfl, Nat.le_of_ble_eq_true rfl⟩) (fun S1 hf H locs hH => ?_)
        refine lv_aload_n hx hb dX8_tell_49 rfl (lv_at hl 0 rfl) ?_
        refine lv_bipush (v := 48) hx hb dX8_tell_50 (by decide) ?_
        refine lv_iload_n hx hb dX8_tell_52 rfl (lv_at hl 3 rfl) ?_
        refine lv_bipush (v := 10) hx hb dX8_tell_53 (by decide) ?_
        refine lv_irem hx hb dX8_tell_55 hf.1 ?_
        have hf := hf.2
        refine lv_iadd hx hb dX8_tell_56 ?_
        obtain ⟨hb1, hb2, hf⟩ := hf
        refine q_backV0 X hH (q_runV [.int ((48 : Int32) + (l3 - l3 / 10 * 10))] [] X hH hl (c_X8_writes l D cy G X.2.2.2.1 S1 l0 ((48 : Int32) + (l3 - l3 / 10 * 10)) _ _ hf) mf_X8_writes mv_X8_writes tw_2040 ⟨Nat.le_of_ble_eq_true rfl, Nat.le_of_ble_eq_true rfl⟩ hb1 hb2 (T := TX8) (N := 25) rfl rfl (Nat.le_of_ble_eq_true rfl) dX8_tell_57 ⟨Nat.le_of_ble_eq_true rfl, Nat.le_of_ble_eq_true rfl⟩) (fun S3 hf H locs hH => ?_)
        refine lv_aload_n hx hb dX8_tell_60 rfl (lv_at hl 0 rfl) ?_
        refine lv_bipush (v := 61) hx hb dX8_tell_61 (by decide) ?_
        obtain ⟨hb1, hb2, hf⟩ := hf
        refine q_backV0 X hH (q_runV [.int 61] [] X hH hl (c_X8_writes l D cy G X.2.2.2.1 S3 l0 61 _ _ hf) mf_X8_writes mv_X8_writes tw_2040 ⟨Nat.le_of_ble_eq_true rfl, Nat.le_of_ble_eq_true rfl⟩ hb1 hb2 (T := TX8) (N := 25) rfl rfl (Nat.le_of_ble_eq_true rfl) dX8_tell_63 ⟨Nat.le_of_ble_eq_true rfl, Nat.le_of_ble_eq_true rfl⟩) (fun S5 hf H locs hH => ?_)
        refine lv_aload_n hx hb dX8_tell_66 rfl (lv_at hl 0 rfl) ?_
        refine lv_aload_n hx hb dX8_tell_67 rfl (lv_at hl 0 rfl) ?_
        refine lv_iload_n hx hb dX8_tell_68 rfl (lv_at hl 3 rfl) ?_
        refine lv_bipush (v := 10) hx hb dX8_tell_69 (by decide) ?_
        refine lv_idiv hx hb dX8_tell_71 hf.1 ?_
        have hf := hf.2
        refine lv_iload_n hx hb dX8_tell_72 rfl (lv_at hl 3 rfl) ?_
        refine lv_bipush (v := 10) hx hb dX8_tell_73 (by decide) ?_
        refine lv_irem hx hb dX8_tell_75 hf.1 ?_
        have hf := hf.2
        obtain ⟨hb1, hb2, hf⟩ := hf
        refine q_backI0 X hH (q_runV [.int (l3 / 10), .int (l3 - l3 / 10 * 10)] [.ref l0] X hH hl (c_X8_w l D cy G X.2.2.2.1 S5 l0 (l3 / 10) (l3 - l3 / 10 * 10) _ _ hf) mf_X8_w mv_X8_w tw_1745 ⟨Nat.le_of_ble_eq_true rfl, Nat.le_of_ble_eq_true rfl⟩ hb1 hb2 (T := TX8) (N := 25) rfl rfl (Nat.le_of_ble_eq_true rfl) dX8_tell_76 ⟨Nat.le_of_ble_eq_true rfl, Nat.le_of_ble_eq_true rfl⟩) (fun v8 S7 hf H locs hH => ?_)
        obtain ⟨hb1, hb2, hf⟩ := hf
        refine q_backV0 X hH (q_runV [.int v8] [] X hH hl (c_X8_writesNumber l D cy G X.2.2.2.1 12 S7 l0 v8 _ _ hf) mf_X8_writesNumber mv_X8_writesNumber tw_2044 ⟨Nat.le_of_ble_eq_true rfl, Nat.le_of_ble_eq_true rfl⟩ hb1 hb2 (T := TX8) (N := 25) rfl rfl (Nat.le_of_ble_eq_true rfl) dX8_tell_79 ⟨Nat.le_of_ble_eq_true rfl, Nat.le_of_ble_eq_true rfl⟩) (fun S9 hf H locs hH => ?_)
        refine lv_iinc (v := l2 + 1) (lv' := [(2, .int (l2 + 1)), (0, .ref l0), (1, .int l1), (3, .int l3)]) hx hb dX8_tell_82 hl (k := 2) rfl rfl (by decide) rfl (fun ls hl => ?_)
        refine lv_goto (tgt := 17) hx hb dX8_tell_85 (by decide) ?_
        exact ih17 S9 l0 l1 (l2 + 1) hf H locs ls hH (lv_sub hl [1, 2, 0] rfl)
      refine lv_iload_n hx hb dX8_tell_17 rfl (lv_at hl 2 rfl) ?_
      refine lv_iload_n hx hb dX8_tell_18 rfl (lv_at hl 1 rfl) ?_
      refine lv_icmp_ge (tgt := 88) hx hb dX8_tell_19 (by decide) (fun c1 => ?_) (fun c1 => ?_)
      · have hf := (if_pos c1).mp hf
        exact hJ88 S l0 hf H locs ls hH (lv_sub hl [0] rfl)
      · have hf := (if_neg c1).mp hf
        refine lv_aload_n hx hb dX8_tell_22 rfl (lv_at hl 0 rfl) ?_
        refine lv_iload_n hx hb dX8_tell_23 rfl (lv_at hl 2 rfl) ?_
        obtain ⟨hb1, hb2, hf⟩ := hf
        refine q_backI0 X hH (q_runV [.int l2] [] X hH hl (c_X8_bondWith l D cy G X.2.2.2.1 S l0 l2 _ _ hf) mf_X8_bondWith mv_X8_bondWith tw_1971 ⟨Nat.le_of_ble_eq_true rfl, Nat.le_of_ble_eq_true rfl⟩ hb1 hb2 (T := TX8) (N := 25) rfl rfl (Nat.le_of_ble_eq_true rfl) dX8_tell_24 ⟨Nat.le_of_ble_eq_true rfl, Nat.le_of_ble_eq_true rfl⟩) (fun v3 S2 hf H locs hH => ?_)
        refine lv_istore_n (lv' := [(3, .int v3), (0, .ref l0), (1, .int l1), (2, .int l2)]) hx hb dX8_tell_27 rfl hl (by decide) rfl (fun ls hl => ?_)
        refine lv_iload_n hx hb dX8_tell_28 rfl (lv_at hl 3 rfl) ?_
        refine lv_if_le (tgt := 38) hx hb dX8_tell_29 (by decide) (fun c4 => ?_) (fun c4 => ?_)
        · have hf := (if_pos c4).mp hf
          exact hJ38 S2 l0 l1 l2 v3 hf H locs ls hH (lv_sub hl [1, 2, 3, 0] rfl)
        · have hf := (if_neg c4).mp hf
          refine lv_aload_n hx hb dX8_tell_32 rfl (lv_at hl 1 rfl) ?_
          refine lv_bipush (v := 32) hx hb dX8_tell_33 (by decide) ?_
          obtain ⟨hb1, hb2, hf⟩ := hf
          refine q_backV0 X hH (q_runV [.int 32] [] X hH hl (c_X8_writes l D cy G X.2.2.2.1 S2 l0 32 _ _ hf) mf_X8_writes mv_X8_writes tw_2040 ⟨Nat.le_of_ble_eq_true rfl, Nat.le_of_ble_eq_true rfl⟩ hb1 hb2 (T := TX8) (N := 25) rfl rfl (Nat.le_of_ble_eq_true rfl) dX8_tell_35 ⟨Nat.le_of_ble_eq_true rfl, Nat.le_of_ble_eq_true rfl⟩) (fun S5 hf H locs hH => ?_)
          exact hJ38 S5 l0 l1 l2 v3 hf H locs ls hH (lv_sub hl [1, 2, 3, 0] rfl)
  refine lv_aload_n hx hb dX8_tell_0 rfl (lv_at hl 0 rfl) ?_
  refine lv_iconst (v := 0) hx hb dX8_tell_1 (by decide) ?_
  refine q_putV (T := TX8) (N := 25) (ty0 := tyX8) (ty := tyX8 0) X hH hf iw_X8 tyX8_ok nmX8 rfl (by decide) tw_1609 (fun _ h => h) rfl (tyX8_ok 0 (by decide)) rfl rfl dX8_tell_2 (fun S1 hf H locs hH => ?_)
  refine lv_aload_n hx hb dX8_tell_5 rfl (lv_at hl 0 rfl) ?_
  refine lv_iconst (v := 0) hx hb dX8_tell_6 (by decide) ?_
  refine q_putV (T := TX8) (N := 25) (ty0 := tyX8) (ty := tyX8 24) X hH hf iw_X8 tyX8_ok nmX8 rfl (by decide) tw_1633 (fun _ h => h) rfl (tyX8_ok 24 (by decide)) rfl rfl dX8_tell_7 (fun S2 hf H locs hH => ?_)
  refine lv_aload_n hx hb dX8_tell_10 rfl (lv_at hl 0 rfl) ?_
  obtain ⟨hb1, hb2, hf⟩ := hf
  refine q_backI0 X hH (q_runV [] [] X hH hl (c_X8_bondMany l D cy G X.2.2.2.1 S2 a0 _ _ hf) mf_X8_bondMany mv_X8_bondMany tw_1769 ⟨Nat.le_of_ble_eq_true rfl, Nat.le_of_ble_eq_true rfl⟩ hb1 hb2 (T := TX8) (N := 25) rfl rfl (Nat.le_of_ble_eq_true rfl) dX8_tell_11 ⟨Nat.le_of_ble_eq_true rfl, Nat.le_of_ble_eq_true rfl⟩) (fun v4 S3 hf H locs hH => ?_)
  refine lv_istore_n (lv' := [(1, .int v4), (0, .ref a0)]) hx hb dX8_tell_14 rfl hl (by decide) rfl (fun ls hl => ?_)
  refine lv_iconst (v := 0) hx hb dX8_tell_15 (by decide) ?_
  refine lv_istore_n (lv' := [(2, .int 0), (1, .int v4), (0, .ref a0)]) hx hb dX8_tell_16 rfl hl (by decide) rfl (fun ls hl => ?_)
  exact hL17 4096 S3 a0 v4 0 hf H locs ls hH (lv_sub hl [2, 1, 0] rfl)
-- X8_tellPhase
def f_X8_tellPhase_J68 (post : Int32 → PS → Prop) (S : PS) (l0 : Nat) (l1 : Int32) : Prop :=
  isO S l0 12 (
  f_X8_writes S l0 61 fun S1 => (
  gR S1 l0 12 11 fun v3 => (
  aI S1 v3 0 l1 fun v4 => (
  isO S1 l0 12 (
  f_X8_writesNumber 12 S1 l0 v4 fun S5 => (
  gI S5 l0 12 24 fun v7 => (
  post v7 S5)))))))
def f_X8_tellPhase_J47 (post : Int32 → PS → Prop) (g25 : PS → Nat → Int32 → Int32 → Prop) (S : PS) (l0 : Nat) (l1 : Int32) (l2 : Int32) : Prop :=
  gR S l0 12 9 fun v1 => (
  aI S v1 0 (((9 : Int32) * l1) + l2) fun v2 => (
  isO S l0 12 (
  f_X8_writesSet S l0 v2 fun S3 => (
  g25 S3 l0 l1 (l2 + 1)))))
def f_X8_tellPhase_L25 (post : Int32 → PS → Prop) : Nat → PS → Nat → Int32 → Int32 → Prop
  | 0, _, _, _, _ => False
  | n + 1, S, l0, l1, l2 =>
  gR S l0 12 1 fun v1 => (
  aI S v1 0 0 fun v2 => (
  if (v2 - l1) ≤ l2 then
    f_X8_tellPhase_J68 post S l0 l1
  else
    if l2 ≤ 0 then
      f_X8_tellPhase_J47 post (f_X8_tellPhase_L25 post n) S l0 l1 l2
    else
      isO S l0 12 (
      f_X8_writes S l0 60 fun S5 => (
      f_X8_tellPhase_J47 post (f_X8_tellPhase_L25 post n) S5 l0 l1 l2))))
def f_X8_tellPhase (S : PS) (a0 : Nat) (a1 : Int32) (post : Int32 → PS → Prop) : Prop :=
  isO S a0 12 (
  f_X8_isPhase S a0 a1 fun v2 S1 => (
  isO S1 a0 12 (
  f_X8_isThere S1 a0 v2 fun v4 S3 => (
  if v4 = 0 then
    post 0 S3
  else
    isO S3 a0 12 (
    f_X8_laysPhases S3 a0 fun S6 => (
    pV S6 a0 12 24 (.int 0) fun S8 => (
    f_X8_tellPhase_L25 post 4096 S8 a0 a1 0)))))))
abbrev rm_X8_tellPhase : Room := { frames := 14, cells := 0, slots := 0, locals := 294 }
set_option maxHeartbeats 4000000 in
set_option maxRecDepth 100000 in
theorem c_X8_tellPhase (l : Launch) (D : va_G) (cy : Nat → ClassId) (G : p_GT) (hG : p_ok G) (S : PS) (a0 : Nat) (a1 : Int32) (post : Int32 → PS → Prop) (sz : Nat) (hf : f_X8_tellPhase S a0 a1 post) : p_Mi l D cy G S sz yX8_tellPhase (Cond.code yX8_tellPhase cX8_tellPhase 3 (some .int) :: wG) rm_X8_tellPhase [.ref a0, .int a1] 0 0 post := by
  refine q_start hG (Qc := fun A => va_Qi post (p_Post D cy A) A) mf_X8_tellPhase (Nat.le_of_ble_eq_true rfl) (own := RX8) rfl ?_
  intro p e s m below meth c A X hr hlk hnm ls hl hH
  have hx := X.1.1
  have hb := X.1.2.1
  replace hl : lv_has ls 3 [(0, .ref a0), (1, .int a1)] := hl
  obtain ⟨H, hHe⟩ : ∃ H, H = s.heap := ⟨_, rfl⟩
  obtain ⟨locs, hlo⟩ : ∃ locs : List Loc, locs = [] := ⟨_, rfl⟩
  rw [← hHe, ← hlo] at hH
  show W p l e rm_X8_tellPhase s m [.ref a0, .int a1].toArray below meth c s.heap [] 0 0 _ _
  rw [← hHe, ← hlo]
  have hL25 : ∀ (n25 : Nat) (S : PS) (l0 : Nat) (l1 : Int32) (l2 : Int32), f_X8_tellPhase_L25 post n25 S l0 l1 l2 → ∀ (H : Heap) (locs : List Loc) (ls : Array Slot), p_H D cy S A s H locs → lv_has ls 3 [(0, .ref l0), (1, .int l1), (2, .int l2)] → W p l e rm_X8_tellPhase s m [.ref a0, .int a1].toArray below meth c H locs 0 0 (MQ below (va_Qi post (p_Post D cy A) A) [.ref a0, .int a1].toArray s 0 0 A) (F0 m 25 ls []) := by
    intro n25
    induction n25 with
    | zero => intro S l0 l1 l2 hf; exact hf.elim
    | succ n25 ih25 =>
      intro S l0 l1 l2 hf H locs ls hH hl
      have hJ68 : ∀ (S : PS) (l0 : Nat) (l1 : Int32), f_X8_tellPhase_J68 post S l0 l1 → ∀ (H : Heap) (locs : List Loc) (ls : Array Slot), p_H D cy S A s H locs → lv_has ls 3 [(0, .ref l0), (1, .int l1)] → W p l e rm_X8_tellPhase s m [.ref a0, .int a1].toArray below meth c H locs 0 0 (MQ below (va_Qi post (p_Post D cy A) A) [.ref a0, .int a1].toArray s 0 0 A) (F0 m 68 ls []) := by
        intro S l0 l1 hf H locs ls hH hl
        refine lv_aload_n hx hb dX8_tellPhase_68 rfl (lv_at hl 0 rfl) ?_
        refine lv_bipush (v := 61) hx hb dX8_tellPhase_69 (by decide) ?_
        obtain ⟨hb1, hb2, hf⟩ := hf
        refine q_backV0 X hH (q_runV [.int 61] [] X hH hl (c_X8_writes l D cy G X.2.2.2.1 S l0 61 _ _ hf) mf_X8_writes mv_X8_writes tw_2040 ⟨Nat.le_of_ble_eq_true rfl, Nat.le_of_ble_eq_true rfl⟩ hb1 hb2 (T := TX8) (N := 25) rfl rfl (Nat.le_of_ble_eq_true rfl) dX8_tellPhase_71 ⟨Nat.le_of_ble_eq_true rfl, Nat.le_of_ble_eq_true rfl⟩) (fun S1 hf H locs hH => ?_)
        refine lv_aload_n hx hb dX8_tellPhase_74 rfl (lv_at hl 0 rfl) ?_
        refine lv_aload_n hx hb dX8_tellPhase_75 rfl (lv_at hl 0 rfl) ?_
        refine q_getR (T := TX8) (N := 25) X hH hf iw_X8 rfl (by decide) tw_1620 (fun _ h => h) dX8_tellPhase_76 (fun v3 hf => ?_)
        refine lv_iload_n hx hb dX8_tellPhase_79 rfl (lv_at hl 1 rfl) ?_
        refine q_iald X hH hf dX8_tellPhase_80 (fun v4 hf => ?_)
        obtain ⟨hb1, hb2, hf⟩ := hf
        refine q_backV0 X hH (q_runV [.int v4] [] X hH hl (c_X8_writesNumber l D cy G X.2.2.2.1 12 S1 l0 v4 _ _ hf) mf_X8_writesNumber mv_X8_writesNumber tw_2044 ⟨Nat.le_of_ble_eq_true rfl, Nat.le_of_ble_eq_true rfl⟩ hb1 hb2 (T := TX8) (N := 25) rfl rfl (Nat.le_of_ble_eq_true rfl) dX8_tellPhase_81 ⟨Nat.le_of_ble_eq_true rfl, Nat.le_of_ble_eq_true rfl⟩) (fun S5 hf H locs hH => ?_)
        refine lv_aload_n hx hb dX8_tellPhase_84 rfl (lv_at hl 0 rfl) ?_
        refine q_getI (T := TX8) (N := 25) X hH hf iw_X8 rfl (by decide) tw_1633 (fun _ h => h) dX8_tellPhase_85 (fun v7 hf => ?_)
        exact q_retI X hH hr hlk hf (Nat.zero_le _) (Nat.zero_le _) dX8_tellPhase_88
      have hJ47 : ∀ (S : PS) (l0 : Nat) (l1 : Int32) (l2 : Int32), f_X8_tellPhase_J47 post (f_X8_tellPhase_L25 post n25) S l0 l1 l2 → ∀ (H : Heap) (locs : List Loc) (ls : Array Slot), p_H D cy S A s H locs → lv_has ls 3 [(0, .ref l0), (1, .int l1), (2, .int l2)] → W p l e rm_X8_tellPhase s m [.ref a0, .int a1].toArray below meth c H locs 0 0 (MQ below (va_Qi post (p_Post D cy A) A) [.ref a0, .int a1].toArray s 0 0 A) (F0 m 47 ls []) := by
        intro S l0 l1 l2 hf H locs ls hH hl
        refine lv_aload_n hx hb dX8_tellPhase_47 rfl (lv_at hl 0 rfl) ?_
        refine lv_aload_n hx hb dX8_tellPhase_48 rfl (lv_at hl 0 rfl) ?_
        refine q_getR (T := TX8) (N := 25) X hH hf iw_X8 rfl (by decide) tw_1618 (fun _ h => h) dX8_tellPhase_49 (fun v1 hf => ?_)
        refine lv_bipush (v := 9) hx hb dX8_tellPhase_52 (by decide) ?_
        refine lv_iload_n hx hb dX8_tellPhase_54 rfl (lv_at hl 1 rfl) ?_
        refine lv_imul hx hb dX8_tellPhase_55 ?_
        refine lv_iload_n hx hb dX8_tellPhase_56 rfl (lv_at hl 2 rfl) ?_
        refine lv_iadd hx hb dX8_tellPhase_57 ?_
        refine q_iald X hH hf dX8_tellPhase_58 (fun v2 hf => ?_)
        obtain ⟨hb1, hb2, hf⟩ := hf
        refine q_backV0 X hH (q_runV [.int v2] [] X hH hl (c_X8_writesSet l D cy G X.2.2.2.1 S l0 v2 _ _ hf) mf_X8_writesSet mv_X8_writesSet tw_2052 ⟨Nat.le_of_ble_eq_true rfl, Nat.le_of_ble_eq_true rfl⟩ hb1 hb2 (T := TX8) (N := 25) rfl rfl (Nat.le_of_ble_eq_true rfl) dX8_tellPhase_59 ⟨Nat.le_of_ble_eq_true rfl, Nat.le_of_ble_eq_true rfl⟩) (fun S3 hf H locs hH => ?_)
        refine lv_iinc (v := l2 + 1) (lv' := [(2, .int (l2 + 1)), (0, .ref l0), (1, .int l1)]) hx hb dX8_tellPhase_62 hl (k := 2) rfl rfl (by decide) rfl (fun ls hl => ?_)
        refine lv_goto (tgt := 25) hx hb dX8_tellPhase_65 (by decide) ?_
        exact ih25 S3 l0 l1 (l2 + 1) hf H locs ls hH (lv_sub hl [1, 2, 0] rfl)
      refine lv_iload_n hx hb dX8_tellPhase_25 rfl (lv_at hl 2 rfl) ?_
      refine lv_aload_n hx hb dX8_tellPhase_26 rfl (lv_at hl 0 rfl) ?_
      refine q_getR (T := TX8) (N := 25) X hH hf iw_X8 rfl (by decide) tw_1610 (fun _ h => h) dX8_tellPhase_27 (fun v1 hf => ?_)
      refine lv_iconst (v := 0) hx hb dX8_tellPhase_30 (by decide) ?_
      refine q_iald X hH hf dX8_tellPhase_31 (fun v2 hf => ?_)
      refine lv_iload_n hx hb dX8_tellPhase_32 rfl (lv_at hl 1 rfl) ?_
      refine lv_isub hx hb dX8_tellPhase_33 ?_
      refine lv_icmp_ge (tgt := 68) hx hb dX8_tellPhase_34 (by decide) (fun c3 => ?_) (fun c3 => ?_)
      · have hf := (if_pos c3).mp hf
        exact hJ68 S l0 l1 hf H locs ls hH (lv_sub hl [0, 1] rfl)
      · have hf := (if_neg c3).mp hf
        refine lv_iload_n hx hb dX8_tellPhase_37 rfl (lv_at hl 2 rfl) ?_
        refine lv_if_le (tgt := 47) hx hb dX8_tellPhase_38 (by decide) (fun c4 => ?_) (fun c4 => ?_)
        · have hf := (if_pos c4).mp hf
          exact hJ47 S l0 l1 l2 hf H locs ls hH hl
        · have hf := (if_neg c4).mp hf
          refine lv_aload_n hx hb dX8_tellPhase_41 rfl (lv_at hl 0 rfl) ?_
          refine lv_bipush (v := 60) hx hb dX8_tellPhase_42 (by decide) ?_
          obtain ⟨hb1, hb2, hf⟩ := hf
          refine q_backV0 X hH (q_runV [.int 60] [] X hH hl (c_X8_writes l D cy G X.2.2.2.1 S l0 60 _ _ hf) mf_X8_writes mv_X8_writes tw_2040 ⟨Nat.le_of_ble_eq_true rfl, Nat.le_of_ble_eq_true rfl⟩ hb1 hb2 (T := TX8) (N := 25) rfl rfl (Nat.le_of_ble_eq_true rfl) dX8_tellPhase_44 ⟨Nat.le_of_ble_eq_true rfl, Nat.le_of_ble_eq_true rfl⟩) (fun S5 hf H locs hH => ?_)
          exact hJ47 S5 l0 l1 l2 hf H locs ls hH hl
  refine lv_aload_n hx hb dX8_tellPhase_0 rfl (lv_at hl 0 rfl) ?_
  refine lv_aload_n hx hb dX8_tellPhase_1 rfl (lv_at hl 0 rfl) ?_
  refine lv_iload_n hx hb dX8_tellPhase_2 rfl (lv_at hl 1 rfl) ?_
  obtain ⟨hb1, hb2, hf⟩ := hf
  refine q_backI0 X hH (q_runV [.int a1] [.ref a0] X hH hl (c_X8_isPhase l D cy G X.2.2.2.1 S a0 a1 _ _ hf) mf_X8_isPhase mv_X8_isPhase tw_1844 ⟨Nat.le_of_ble_eq_true rfl, Nat.le_of_ble_eq_true rfl⟩ hb1 hb2 (T := TX8) (N := 25) rfl rfl (Nat.le_of_ble_eq_true rfl) dX8_tellPhase_3 ⟨Nat.le_of_ble_eq_true rfl, Nat.le_of_ble_eq_true rfl⟩) (fun v2 S1 hf H locs hH => ?_)
  obtain ⟨hb1, hb2, hf⟩ := hf
  refine q_backI0 X hH (q_runV [.int v2] [] X hH hl (c_X8_isThere l D cy G X.2.2.2.1 S1 a0 v2 _ _ hf) mf_X8_isThere mv_X8_isThere tw_1868 ⟨Nat.le_of_ble_eq_true rfl, Nat.le_of_ble_eq_true rfl⟩ hb1 hb2 (T := TX8) (N := 25) rfl rfl (Nat.le_of_ble_eq_true rfl) dX8_tellPhase_6 ⟨Nat.le_of_ble_eq_true rfl, Nat.le_of_ble_eq_true rfl⟩) (fun v4 S3 hf H locs hH => ?_)
  refine lv_if_ne (tgt := 14) hx hb dX8_tellPhase_9 (by decide) (fun c5 => ?_) (fun c5 => ?_)
  · have hf := (if_neg c5).mp hf
    refine lv_aload_n hx hb dX8_tellPhase_14 rfl (lv_at hl 0 rfl) ?_
    obtain ⟨hb1, hb2, hf⟩ := hf
    refine q_backV0 X hH (q_runV [] [] X hH hl (c_X8_laysPhases l D cy G X.2.2.2.1 S3 a0 _ _ hf) mf_X8_laysPhases mv_X8_laysPhases tw_1820 ⟨Nat.le_of_ble_eq_true rfl, Nat.le_of_ble_eq_true rfl⟩ hb1 hb2 (T := TX8) (N := 25) rfl rfl (Nat.le_of_ble_eq_true rfl) dX8_tellPhase_15 ⟨Nat.le_of_ble_eq_true rfl, Nat.le_of_ble_eq_true rfl⟩) (fun S6 hf H locs hH => ?_)
    refine lv_aload_n hx hb dX8_tellPhase_18 rfl (lv_at hl 0 rfl) ?_
    refine lv_iconst (v := 0) hx hb dX8_tellPhase_19 (by decide) ?_
    refine q_putV (T := TX8) (N := 25) (ty0 := tyX8) (ty := tyX8 24) X hH hf iw_X8 tyX8_ok nmX8 rfl (by decide) tw_1633 (fun _ h => h) rfl (tyX8_ok 24 (by decide)) rfl rfl dX8_tellPhase_20 (fun S8 hf H locs hH => ?_)
    refine lv_iconst (v := 0) hx hb dX8_tellPhase_23 (by decide) ?_
    refine lv_istore_n (lv' := [(2, .int 0), (0, .ref a0), (1, .int a1)]) hx hb dX8_tellPhase_24 rfl hl (by decide) rfl (fun ls hl => ?_)
    exact hL25 4096 S8 a0 a1 0 hf H locs ls hH (lv_sub hl [1, 2, 0] rfl)
  · have hf := (if_pos c5).mp hf
    refine lv_iconst (v := 0) hx hb dX8_tellPhase_12 (by decide) ?_
    exact q_retI X hH hr hlk hf (Nat.zero_le _) (Nat.zero_le _) dX8_tellPhase_13
-- X8_tellSides
def f_X8_tellSides (S : PS) (a0 : Nat) (post : Int32 → PS → Prop) : Prop :=
  pV S a0 12 0 (.int 0) fun S1 => (
  pV S1 a0 12 24 (.int 0) fun S2 => (
  isO S2 a0 12 (
  f_X8_everyone S2 a0 fun v4 S3 => (
  isO S3 a0 12 (
  f_X8_sideSet S3 a0 fun v6 S5 => (
  isO S5 a0 12 (
  f_X8_writesSet S5 a0 (v4 &&& (v6 ^^^ (-1))) fun S7 => (
  isO S7 a0 12 (
  f_X8_writes S7 a0 124 fun S9 => (
  isO S9 a0 12 (
  f_X8_sideSet S9 a0 fun v12 S11 => (
  isO S11 a0 12 (
  f_X8_writesSet S11 a0 v12 fun S13 => (
  gI S13 a0 12 24 fun v15 => (
  post v15 S13)))))))))))))))
abbrev rm_X8_tellSides : Room := { frames := 2, cells := 0, slots := 0, locals := 43 }
set_option maxHeartbeats 4000000 in
set_option maxRecDepth 100000 in
theorem c_X8_tellSides (l : Launch) (D : va_G) (cy : Nat → ClassId) (G : p_GT) (hG : p_ok G) (S : PS) (a0 : Nat) (post : Int32 → PS → Prop) (sz : Nat) (hf : f_X8_tellSides S a0 post) : p_Mi l D cy G S sz yX8_tellSides (Cond.code yX8_tellSides cX8_tellSides 1 (some .int) :: wG) rm_X8_tellSides [.ref a0] 0 0 post := by
  refine q_start hG (Qc := fun A => va_Qi post (p_Post D cy A) A) mf_X8_tellSides (Nat.le_of_ble_eq_true rfl) (own := RX8) rfl ?_
  intro p e s m below meth c A X hr hlk hnm ls hl hH
  have hx := X.1.1
  have hb := X.1.2.1
  replace hl : lv_has ls 1 [(0, .ref a0)] := hl
  obtain ⟨H, hHe⟩ : ∃ H, H = s.heap := ⟨_, rfl⟩
  obtain ⟨locs, hlo⟩ : ∃ locs : List Loc, locs = [] := ⟨_, rfl⟩
  rw [← hHe, ← hlo] at hH
  show W p l e rm_X8_tellSides s m [.ref a0].toArray below meth c s.heap [] 0 0 _ _
  rw [← hHe, ← hlo]
  refine lv_aload_n hx hb dX8_tellSides_0 rfl (lv_at hl 0 rfl) ?_
  refine lv_iconst (v := 0) hx hb dX8_tellSides_1 (by decide) ?_
  refine q_putV (T := TX8) (N := 25) (ty0 := tyX8) (ty := tyX8 0) X hH hf iw_X8 tyX8_ok nmX8 rfl (by decide) tw_1609 (fun _ h => h) rfl (tyX8_ok 0 (by decide)) rfl rfl dX8_tellSides_2 (fun S1 hf H locs hH => ?_)
  refine lv_aload_n hx hb dX8_tellSides_5 rfl (lv_at hl 0 rfl) ?_
  refine lv_iconst (v := 0) hx hb dX8_tellSides_6 (by decide) ?_
  refine q_putV (T := TX8) (N := 25) (ty0 := tyX8) (ty := tyX8 24) X hH hf iw_X8 tyX8_ok nmX8 rfl (by decide) tw_1633 (fun _ h => h) rfl (tyX8_ok 24 (by decide)) rfl rfl dX8_tellSides_7 (fun S2 hf H locs hH => ?_)
  refine lv_aload_n hx hb dX8_tellSides_10 rfl (lv_at hl 0 rfl) ?_
  refine lv_aload_n hx hb dX8_tellSides_11 rfl (lv_at hl 0 rfl) ?_
  obtain ⟨hb1, hb2, hf⟩ := hf
  refine q_backI0 X hH (q_runV [] [.ref a0] X hH hl (c_X8_everyone l D cy G X.2.2.2.1 S2 a0 _ _ hf) mf_X8_everyone mv_X8_everyone tw_1801 ⟨Nat.le_of_ble_eq_true rfl, Nat.le_of_ble_eq_true rfl⟩ hb1 hb2 (T := TX8) (N := 25) rfl rfl (Nat.le_of_ble_eq_true rfl) dX8_tellSides_12 ⟨Nat.le_of_ble_eq_true rfl, Nat.le_of_ble_eq_true rfl⟩) (fun v4 S3 hf H locs hH => ?_)
  refine lv_aload_n hx hb dX8_tellSides_15 rfl (lv_at hl 0 rfl) ?_
  obtain ⟨hb1, hb2, hf⟩ := hf
  refine q_backI0 X hH (q_runV [] [.int v4, .ref a0] X hH hl (c_X8_sideSet l D cy G X.2.2.2.1 S3 a0 _ _ hf) mf_X8_sideSet mv_X8_sideSet tw_1793 ⟨Nat.le_of_ble_eq_true rfl, Nat.le_of_ble_eq_true rfl⟩ hb1 hb2 (T := TX8) (N := 25) rfl rfl (Nat.le_of_ble_eq_true rfl) dX8_tellSides_16 ⟨Nat.le_of_ble_eq_true rfl, Nat.le_of_ble_eq_true rfl⟩) (fun v6 S5 hf H locs hH => ?_)
  refine lv_iconst (v := (-1)) hx hb dX8_tellSides_19 (by decide) ?_
  refine lv_ixor hx hb dX8_tellSides_20 ?_
  refine lv_iand hx hb dX8_tellSides_21 ?_
  obtain ⟨hb1, hb2, hf⟩ := hf
  refine q_backV0 X hH (q_runV [.int (v4 &&& (v6 ^^^ (-1)))] [] X hH hl (c_X8_writesSet l D cy G X.2.2.2.1 S5 a0 (v4 &&& (v6 ^^^ (-1))) _ _ hf) mf_X8_writesSet mv_X8_writesSet tw_2052 ⟨Nat.le_of_ble_eq_true rfl, Nat.le_of_ble_eq_true rfl⟩ hb1 hb2 (T := TX8) (N := 25) rfl rfl (Nat.le_of_ble_eq_true rfl) dX8_tellSides_22 ⟨Nat.le_of_ble_eq_true rfl, Nat.le_of_ble_eq_true rfl⟩) (fun S7 hf H locs hH => ?_)
  refine lv_aload_n hx hb dX8_tellSides_25 rfl (lv_at hl 0 rfl) ?_
  refine lv_bipush (v := 124) hx hb dX8_tellSides_26 (by decide) ?_
  obtain ⟨hb1, hb2, hf⟩ := hf
  refine q_backV0 X hH (q_runV [.int 124] [] X hH hl (c_X8_writes l D cy G X.2.2.2.1 S7 a0 124 _ _ hf) mf_X8_writes mv_X8_writes tw_2040 ⟨Nat.le_of_ble_eq_true rfl, Nat.le_of_ble_eq_true rfl⟩ hb1 hb2 (T := TX8) (N := 25) rfl rfl (Nat.le_of_ble_eq_true rfl) dX8_tellSides_28 ⟨Nat.le_of_ble_eq_true rfl, Nat.le_of_ble_eq_true rfl⟩) (fun S9 hf H locs hH => ?_)
  refine lv_aload_n hx hb dX8_tellSides_31 rfl (lv_at hl 0 rfl) ?_
  refine lv_aload_n hx hb dX8_tellSides_32 rfl (lv_at hl 0 rfl) ?_
  obtain ⟨hb1, hb2, hf⟩ := hf
  refine q_backI0 X hH (q_runV [] [.ref a0] X hH hl (c_X8_sideSet l D cy G X.2.2.2.1 S9 a0 _ _ hf) mf_X8_sideSet mv_X8_sideSet tw_1793 ⟨Nat.le_of_ble_eq_true rfl, Nat.le_of_ble_eq_true rfl⟩ hb1 hb2 (T := TX8) (N := 25) rfl rfl (Nat.le_of_ble_eq_true rfl) dX8_tellSides_33 ⟨Nat.le_of_ble_eq_true rfl, Nat.le_of_ble_eq_true rfl⟩) (fun v12 S11 hf H locs hH => ?_)
  obtain ⟨hb1, hb2, hf⟩ := hf
  refine q_backV0 X hH (q_runV [.int v12] [] X hH hl (c_X8_writesSet l D cy G X.2.2.2.1 S11 a0 v12 _ _ hf) mf_X8_writesSet mv_X8_writesSet tw_2052 ⟨Nat.le_of_ble_eq_true rfl, Nat.le_of_ble_eq_true rfl⟩ hb1 hb2 (T := TX8) (N := 25) rfl rfl (Nat.le_of_ble_eq_true rfl) dX8_tellSides_36 ⟨Nat.le_of_ble_eq_true rfl, Nat.le_of_ble_eq_true rfl⟩) (fun S13 hf H locs hH => ?_)
  refine lv_aload_n hx hb dX8_tellSides_39 rfl (lv_at hl 0 rfl) ?_
  refine q_getI (T := TX8) (N := 25) X hH hf iw_X8 rfl (by decide) tw_1633 (fun _ h => h) dX8_tellSides_40 (fun v15 hf => ?_)
  exact q_retI X hH hr hlk hf (Nat.zero_le _) (Nat.zero_le _) dX8_tellSides_43
-- X8_character
def f_X8_character (S : PS) (a0 : Nat) (a1 : Int32) (post : Int32 → PS → Prop) : Prop :=
  gI S a0 12 24 fun v1 => (
  f_X8_in S a1 0 (v1 - 1) fun v3 S2 => (
  isO S2 a0 12 (
  f_X8_isThere S2 a0 v3 fun v5 S4 => (
  if v5 = 0 then
    nZ .char 0 (post 0 S4)
  else
    gR S4 a0 12 23 fun v7 => (
    aI S4 v7 2 a1 fun v8 => (
    nZ .char v8 (post v8 S4)))))))
abbrev rm_X8_character : Room := { frames := 1, cells := 0, slots := 0, locals := 22 }
set_option maxHeartbeats 4000000 in
set_option maxRecDepth 100000 in
theorem c_X8_character (l : Launch) (D : va_G) (cy : Nat → ClassId) (G : p_GT) (hG : p_ok G) (S : PS) (a0 : Nat) (a1 : Int32) (post : Int32 → PS → Prop) (sz : Nat) (hf : f_X8_character S a0 a1 post) : p_Mi l D cy G S sz yX8_character (Cond.code yX8_character cX8_character 2 (some .char) :: wG) rm_X8_character [.ref a0, .int a1] 0 0 post := by
  refine q_start hG (Qc := fun A => va_Qi post (p_Post D cy A) A) mf_X8_character (Nat.le_of_ble_eq_true rfl) (own := RX8) rfl ?_
  intro p e s m below meth c A X hr hlk hnm ls hl hH
  have hx := X.1.1
  have hb := X.1.2.1
  replace hl : lv_has ls 2 [(0, .ref a0), (1, .int a1)] := hl
  obtain ⟨H, hHe⟩ : ∃ H, H = s.heap := ⟨_, rfl⟩
  obtain ⟨locs, hlo⟩ : ∃ locs : List Loc, locs = [] := ⟨_, rfl⟩
  rw [← hHe, ← hlo] at hH
  show W p l e rm_X8_character s m [.ref a0, .int a1].toArray below meth c s.heap [] 0 0 _ _
  rw [← hHe, ← hlo]
  refine lv_aload_n hx hb dX8_character_0 rfl (lv_at hl 0 rfl) ?_
  refine lv_iload_n hx hb dX8_character_1 rfl (lv_at hl 1 rfl) ?_
  refine lv_iconst (v := 0) hx hb dX8_character_2 (by decide) ?_
  refine lv_aload_n hx hb dX8_character_3 rfl (lv_at hl 0 rfl) ?_
  refine q_getI (T := TX8) (N := 25) X hH hf iw_X8 rfl (by decide) tw_1633 (fun _ h => h) dX8_character_4 (fun v1 hf => ?_)
  refine lv_iconst (v := 1) hx hb dX8_character_7 (by decide) ?_
  refine lv_isub hx hb dX8_character_8 ?_
  refine q_backI0 X hH (q_runS [.int a1, .int 0, .int (v1 - 1)] [.ref a0] X hH hl (c_X8_in l D cy G X.2.2.2.1 S a1 0 (v1 - 1) _ _ hf) mf_X8_in tw_1695 tw_1694 ⟨Nat.le_of_ble_eq_true rfl, Nat.le_of_ble_eq_true rfl⟩ rfl (Nat.le_of_ble_eq_true rfl) dX8_character_9 ⟨Nat.le_of_ble_eq_true rfl, Nat.le_of_ble_eq_true rfl⟩) (fun v3 S2 hf H locs hH => ?_)
  obtain ⟨hb1, hb2, hf⟩ := hf
  refine q_backI0 X hH (q_runV [.int v3] [] X hH hl (c_X8_isThere l D cy G X.2.2.2.1 S2 a0 v3 _ _ hf) mf_X8_isThere mv_X8_isThere tw_1868 ⟨Nat.le_of_ble_eq_true rfl, Nat.le_of_ble_eq_true rfl⟩ hb1 hb2 (T := TX8) (N := 25) rfl rfl (Nat.le_of_ble_eq_true rfl) dX8_character_12 ⟨Nat.le_of_ble_eq_true rfl, Nat.le_of_ble_eq_true rfl⟩) (fun v5 S4 hf H locs hH => ?_)
  refine lv_if_eq (tgt := 27) hx hb dX8_character_15 (by decide) (fun c6 => ?_) (fun c6 => ?_)
  · have hf := (if_pos c6).mp hf
    refine lv_iconst (v := 0) hx hb dX8_character_27 (by decide) ?_
    exact q_retZ X hH hr hlk hf (Nat.zero_le _) (Nat.zero_le _) dX8_character_28
  · have hf := (if_neg c6).mp hf
    refine lv_aload_n hx hb dX8_character_18 rfl (lv_at hl 0 rfl) ?_
    refine q_getR (T := TX8) (N := 25) X hH hf iw_X8 rfl (by decide) tw_1632 (fun _ h => h) dX8_character_19 (fun v7 hf => ?_)
    refine lv_iload_n hx hb dX8_character_22 rfl (lv_at hl 1 rfl) ?_
    refine q_cald X hH hf dX8_character_23 (fun v8 hf => ?_)
    refine lv_goto (tgt := 28) hx hb dX8_character_24 (by decide) ?_
    exact q_retZ X hH hr hlk hf (Nat.zero_le _) (Nat.zero_le _) dX8_character_28
-- X8_weights
def f_X8_weights (S : PS) (a0 : Nat) (post : Int32 → PS → Prop) : Prop :=
  isO S a0 12 (
  f_X8_everyone S a0 fun v2 S1 => (
  isO S1 a0 12 (
  f_X8_everyone S1 a0 fun v4 S3 => (
  isO S3 a0 12 (
  f_X8_tie S3 a0 v2 v4 fun v6 S5 => (
  (¬ (2 : Int32) = 0) ∧ (
  post (v6 / 2) S5)))))))
abbrev rm_X8_weights : Room := { frames := 2, cells := 0, slots := 0, locals := 47 }
set_option maxHeartbeats 4000000 in
set_option maxRecDepth 100000 in
theorem c_X8_weights (l : Launch) (D : va_G) (cy : Nat → ClassId) (G : p_GT) (hG : p_ok G) (S : PS) (a0 : Nat) (post : Int32 → PS → Prop) (sz : Nat) (hf : f_X8_weights S a0 post) : p_Mi l D cy G S sz yX8_weights (Cond.code yX8_weights cX8_weights 1 (some .int) :: wG) rm_X8_weights [.ref a0] 0 0 post := by
  refine q_start hG (Qc := fun A => va_Qi post (p_Post D cy A) A) mf_X8_weights (Nat.le_of_ble_eq_true rfl) (own := RX8) rfl ?_
  intro p e s m below meth c A X hr hlk hnm ls hl hH
  have hx := X.1.1
  have hb := X.1.2.1
  replace hl : lv_has ls 1 [(0, .ref a0)] := hl
  obtain ⟨H, hHe⟩ : ∃ H, H = s.heap := ⟨_, rfl⟩
  obtain ⟨locs, hlo⟩ : ∃ locs : List Loc, locs = [] := ⟨_, rfl⟩
  rw [← hHe, ← hlo] at hH
  show W p l e rm_X8_weights s m [.ref a0].toArray below meth c s.heap [] 0 0 _ _
  rw [← hHe, ← hlo]
  refine lv_aload_n hx hb dX8_weights_0 rfl (lv_at hl 0 rfl) ?_
  refine lv_aload_n hx hb dX8_weights_1 rfl (lv_at hl 0 rfl) ?_
  obtain ⟨hb1, hb2, hf⟩ := hf
  refine q_backI0 X hH (q_runV [] [.ref a0] X hH hl (c_X8_everyone l D cy G X.2.2.2.1 S a0 _ _ hf) mf_X8_everyone mv_X8_everyone tw_1801 ⟨Nat.le_of_ble_eq_true rfl, Nat.le_of_ble_eq_true rfl⟩ hb1 hb2 (T := TX8) (N := 25) rfl rfl (Nat.le_of_ble_eq_true rfl) dX8_weights_2 ⟨Nat.le_of_ble_eq_true rfl, Nat.le_of_ble_eq_true rfl⟩) (fun v2 S1 hf H locs hH => ?_)
  refine lv_aload_n hx hb dX8_weights_5 rfl (lv_at hl 0 rfl) ?_
  obtain ⟨hb1, hb2, hf⟩ := hf
  refine q_backI0 X hH (q_runV [] [.int v2, .ref a0] X hH hl (c_X8_everyone l D cy G X.2.2.2.1 S1 a0 _ _ hf) mf_X8_everyone mv_X8_everyone tw_1801 ⟨Nat.le_of_ble_eq_true rfl, Nat.le_of_ble_eq_true rfl⟩ hb1 hb2 (T := TX8) (N := 25) rfl rfl (Nat.le_of_ble_eq_true rfl) dX8_weights_6 ⟨Nat.le_of_ble_eq_true rfl, Nat.le_of_ble_eq_true rfl⟩) (fun v4 S3 hf H locs hH => ?_)
  obtain ⟨hb1, hb2, hf⟩ := hf
  refine q_backI0 X hH (q_runV [.int v2, .int v4] [] X hH hl (c_X8_tie l D cy G X.2.2.2.1 S3 a0 v2 v4 _ _ hf) mf_X8_tie mv_X8_tie tw_1805 ⟨Nat.le_of_ble_eq_true rfl, Nat.le_of_ble_eq_true rfl⟩ hb1 hb2 (T := TX8) (N := 25) rfl rfl (Nat.le_of_ble_eq_true rfl) dX8_weights_9 ⟨Nat.le_of_ble_eq_true rfl, Nat.le_of_ble_eq_true rfl⟩) (fun v6 S5 hf H locs hH => ?_)
  refine lv_iconst (v := 2) hx hb dX8_weights_12 (by decide) ?_
  refine lv_idiv hx hb dX8_weights_13 hf.1 ?_
  have hf := hf.2
  exact q_retI X hH hr hlk hf (Nat.zero_le _) (Nat.zero_le _) dX8_weights_14
-- X8_counted
def f_X8_counted_J91 (post : Int32 → PS → Prop) (g4 : PS → Nat → Int32 → Int32 → Int32 → Prop) (S : PS) (l0 : Nat) (l1 : Int32) (l2 : Int32) (l3 : Int32) : Prop :=
  g4 S l0 l1 l2 (l3 + 1)
def f_X8_counted_J83 (post : Int32 → PS → Prop) (g37 : PS → Nat → Int32 → Int32 → Int32 → Int32 → Prop) (S : PS) (l0 : Nat) (l1 : Int32) (l3 : Int32) (l4 : Int32) (t0 : Int32) (t1 : Int32) : Prop :=
  g37 S l0 l1 (t1 + t0) l3 (l4 + 1)
def f_X8_counted_J82 (post : Int32 → PS → Prop) (g37 : PS → Nat → Int32 → Int32 → Int32 → Int32 → Prop) (S : PS) (l0 : Nat) (l1 : Int32) (l3 : Int32) (l4 : Int32) (t0 : Int32) : Prop :=
  f_X8_counted_J83 post g37 S l0 l1 l3 l4 0 t0
def f_X8_counted_L37 (post : Int32 → PS → Prop) (g4 : PS → Nat → Int32 → Int32 → Int32 → Prop) : Nat → PS → Nat → Int32 → Int32 → Int32 → Int32 → Prop
  | 0, _, _, _, _, _, _ => False
  | n + 1, S, l0, l1, l2, l3, l4 =>
  if l3 ≤ l4 then
    f_X8_counted_J91 post g4 S l0 l1 l2 l3
  else
    if l1 = 0 then
      f_X8_counted_J82 post (f_X8_counted_L37 post g4 n) S l0 l1 l3 l4 l2
    else
      isO S l0 12 (
      f_X8_w S l0 l3 l4 fun v4 S3 => (
      if v4 ≤ 0 then
        f_X8_counted_J82 post (f_X8_counted_L37 post g4 n) S3 l0 l1 l3 l4 l2
      else
        gR S3 l0 12 1 fun v6 => (
        aI S3 v6 0 ((4 : Int32) + l3) fun v7 => (
        gR S3 l0 12 1 fun v8 => (
        aI S3 v8 0 ((4 : Int32) + l4) fun v9 => (
        if v7 = v9 then
          f_X8_counted_J82 post (f_X8_counted_L37 post g4 n) S3 l0 l1 l3 l4 l2
        else
          f_X8_counted_J83 post (f_X8_counted_L37 post g4 n) S3 l0 l1 l3 l4 1 l2))))))
def f_X8_counted_J32 (post : Int32 → PS → Prop) (g4 : PS → Nat → Int32 → Int32 → Int32 → Prop) (S : PS) (l0 : Nat) (l1 : Int32) (l3 : Int32) (t0 : Int32) (t1 : Int32) : Prop :=
  f_X8_counted_L37 post g4 4096 S l0 l1 (t1 + t0) l3 0
def f_X8_counted_J31 (post : Int32 → PS → Prop) (g4 : PS → Nat → Int32 → Int32 → Int32 → Prop) (S : PS) (l0 : Nat) (l1 : Int32) (l3 : Int32) (t0 : Int32) : Prop :=
  f_X8_counted_J32 post g4 S l0 l1 l3 0 t0
def f_X8_counted_L4 (post : Int32 → PS → Prop) : Nat → PS → Nat → Int32 → Int32 → Int32 → Prop
  | 0, _, _, _, _, _ => False
  | n + 1, S, l0, l1, l2, l3 =>
  gR S l0 12 1 fun v1 => (
  aI S v1 0 0 fun v2 => (
  if v2 ≤ l3 then
    post l2 S
  else
    if l1 = 0 then
      isO S l0 12 (
      f_X8_bondsOf S l0 l3 fun v6 S5 => (
      if v6 = 0 then
        f_X8_counted_J32 post (f_X8_counted_L4 post n) S5 l0 l1 l3 1 l2
      else
        f_X8_counted_J31 post (f_X8_counted_L4 post n) S5 l0 l1 l3 l2))
    else
      f_X8_counted_J31 post (f_X8_counted_L4 post n) S l0 l1 l3 l2))
def f_X8_counted (S : PS) (a0 : Nat) (a1 : Int32) (post : Int32 → PS → Prop) : Prop :=
  f_X8_counted_L4 post 4096 S a0 a1 0 0
abbrev rm_X8_counted : Room := { frames := 2, cells := 0, slots := 0, locals := 45 }
set_option maxHeartbeats 4000000 in
set_option maxRecDepth 100000 in
theorem c_X8_counted (l : Launch) (D : va_G) (cy : Nat → ClassId) (G : p_GT) (hG : p_ok G) (S : PS) (a0 : Nat) (a1 : Int32) (post : Int32 → PS → Prop) (sz : Nat) (hf : f_X8_counted S a0 a1 post) : p_Mi l D cy G S sz yX8_counted (Cond.code yX8_counted cX8_counted 5 (some .int) :: wG) rm_X8_counted [.ref a0, .int a1] 0 0 post := by
  refine q_start hG (Qc := fun A => va_Qi post (p_Post D cy A) A) mf_X8_counted (Nat.le_of_ble_eq_true rfl) (own := RX8) rfl ?_
  intro p e s m below meth c A X hr hlk hnm ls hl hH
  have hx := X.1.1
  have hb := X.1.2.1
  replace hl : lv_has ls 5 [(0, .ref a0), (1, .int a1)] := hl
  obtain ⟨H, hHe⟩ : ∃ H, H = s.heap := ⟨_, rfl⟩
  obtain ⟨locs, hlo⟩ : ∃ locs : List Loc, locs = [] := ⟨_, rfl⟩
  rw [← hHe, ← hlo] at hH
  show W p l e rm_X8_counted s m [.ref a0, .int a1].toArray below meth c s.heap [] 0 0 _ _
  rw [← hHe, ← hlo]
  have hL4 : ∀ (n4 : Nat) (S : PS) (l0 : Nat) (l1 : Int32) (l2 : Int32) (l3 : Int32), f_X8_counted_L4 post n4 S l0 l1 l2 l3 → ∀ (H : Heap) (locs : List Loc) (ls : Array Slot), p_H D cy S A s H locs → lv_has ls 5 [(0, .ref l0), (1, .int l1), (2, .int l2), (3, .int l3)] → W p l e rm_X8_counted s m [.ref a0, .int a1].toArray below meth c H locs 0 0 (MQ below (va_Qi post (p_Post D cy A) A) [.ref a0, .int a1].toArray s 0 0 A) (F0 m 4 ls []) := by
    intro n4
    induction n4 with
    | zero => intro S l0 l1 l2 l3 hf; exact hf.elim
    | succ n4 ih4 =>
      intro S l0 l1 l2 l3 hf H locs ls hH hl
      have hJ32 : ∀ (S : PS) (l0 : Nat) (l1 : Int32) (l3 : Int32) (t0 : Int32) (t1 : Int32), f_X8_counted_J32 post (f_X8_counted_L4 post n4) S l0 l1 l3 t0 t1 → ∀ (H : Heap) (locs : List Loc) (ls : Array Slot), p_H D cy S A s H locs → lv_has ls 5 [(0, .ref l0), (1, .int l1), (3, .int l3)] → W p l e rm_X8_counted s m [.ref a0, .int a1].toArray below meth c H locs 0 0 (MQ below (va_Qi post (p_Post D cy A) A) [.ref a0, .int a1].toArray s 0 0 A) (F0 m 32 ls [.int t0, .int t1]) := by
        intro S l0 l1 l3 t0 t1 hf H locs ls hH hl
        have hL37 : ∀ (n37 : Nat) (S : PS) (l0 : Nat) (l1 : Int32) (l2 : Int32) (l3 : Int32) (l4 : Int32), f_X8_counted_L37 post (f_X8_counted_L4 post n4) n37 S l0 l1 l2 l3 l4 → ∀ (H : Heap) (locs : List Loc) (ls : Array Slot), p_H D cy S A s H locs → lv_has ls 5 [(0, .ref l0), (1, .int l1), (2, .int l2), (3, .int l3), (4, .int l4)] → W p l e rm_X8_counted s m [.ref a0, .int a1].toArray below meth c H locs 0 0 (MQ below (va_Qi post (p_Post D cy A) A) [.ref a0, .int a1].toArray s 0 0 A) (F0 m 37 ls []) := by
          intro n37
          induction n37 with
          | zero => intro S l0 l1 l2 l3 l4 hf; exact hf.elim
          | succ n37 ih37 =>
            intro S l0 l1 l2 l3 l4 hf H locs ls hH hl
            have hJ91 : ∀ (S : PS) (l0 : Nat) (l1 : Int32) (l2 : Int32) (l3 : Int32), f_X8_counted_J91 post (f_X8_counted_L4 post n4) S l0 l1 l2 l3 → ∀ (H : Heap) (locs : List Loc) (ls : Array Slot), p_H D cy S A s H locs → lv_has ls 5 [(0, .ref l0), (1, .int l1), (2, .int l2), (3, .int l3)] → W p l e rm_X8_counted s m [.ref a0, .int a1].toArray below meth c H locs 0 0 (MQ below (va_Qi post (p_Post D cy A) A) [.ref a0, .int a1].toArray s 0 0 A) (F0 m 91 ls []) := by
              intro S l0 l1 l2 l3 hf H locs ls hH hl
              refine lv_iinc (v := l3 + 1) (lv' := [(3, .int (l3 + 1)), (0, .ref l0), (1, .int l1), (2, .int l2)]) hx hb dX8_counted_91 hl (k := 3) rfl rfl (by decide) rfl (fun ls hl => ?_)
              refine lv_goto (tgt := 4) hx hb dX8_counted_94 (by decide) ?_
              exact ih4 S l0 l1 l2 (l3 + 1) hf H locs ls hH (lv_sub hl [1, 2, 3, 0] rfl)
            have hJ83 : ∀ (S : PS) (l0 : Nat) (l1 : Int32) (l3 : Int32) (l4 : Int32) (t0 : Int32) (t1 : Int32), f_X8_counted_J83 post (f_X8_counted_L37 post (f_X8_counted_L4 post n4) n37) S l0 l1 l3 l4 t0 t1 → ∀ (H : Heap) (locs : List Loc) (ls : Array Slot), p_H D cy S A s H locs → lv_has ls 5 [(0, .ref l0), (1, .int l1), (3, .int l3), (4, .int l4)] → W p l e rm_X8_counted s m [.ref a0, .int a1].toArray below meth c H locs 0 0 (MQ below (va_Qi post (p_Post D cy A) A) [.ref a0, .int a1].toArray s 0 0 A) (F0 m 83 ls [.int t0, .int t1]) := by
              intro S l0 l1 l3 l4 t0 t1 hf H locs ls hH hl
              refine lv_iadd hx hb dX8_counted_83 ?_
              refine lv_istore_n (lv' := [(2, .int (t1 + t0)), (0, .ref l0), (1, .int l1), (3, .int l3), (4, .int l4)]) hx hb dX8_counted_84 rfl hl (by decide) rfl (fun ls hl => ?_)
              refine lv_iinc (v := l4 + 1) (lv' := [(4, .int (l4 + 1)), (2, .int (t1 + t0)), (0, .ref l0), (1, .int l1), (3, .int l3)]) hx hb dX8_counted_85 hl (k := 4) rfl rfl (by decide) rfl (fun ls hl => ?_)
              refine lv_goto (tgt := 37) hx hb dX8_counted_88 (by decide) ?_
              exact ih37 S l0 l1 (t1 + t0) l3 (l4 + 1) hf H locs ls hH (lv_sub hl [2, 3, 1, 4, 0] rfl)
            have hJ82 : ∀ (S : PS) (l0 : Nat) (l1 : Int32) (l3 : Int32) (l4 : Int32) (t0 : Int32), f_X8_counted_J82 post (f_X8_counted_L37 post (f_X8_counted_L4 post n4) n37) S l0 l1 l3 l4 t0 → ∀ (H : Heap) (locs : List Loc) (ls : Array Slot), p_H D cy S A s H locs → lv_has ls 5 [(0, .ref l0), (1, .int l1), (3, .int l3), (4, .int l4)] → W p l e rm_X8_counted s m [.ref a0, .int a1].toArray below meth c H locs 0 0 (MQ below (va_Qi post (p_Post D cy A) A) [.ref a0, .int a1].toArray s 0 0 A) (F0 m 82 ls [.int t0]) := by
              intro S l0 l1 l3 l4 t0 hf H locs ls hH hl
              refine lv_iconst (v := 0) hx hb dX8_counted_82 (by decide) ?_
              exact hJ83 S l0 l1 l3 l4 0 t0 hf H locs ls hH hl
            refine lv_iload hx hb dX8_counted_37 (lv_at hl 4 rfl) ?_
            refine lv_iload_n hx hb dX8_counted_39 rfl (lv_at hl 3 rfl) ?_
            refine lv_icmp_ge (tgt := 91) hx hb dX8_counted_40 (by decide) (fun c1 => ?_) (fun c1 => ?_)
            · have hf := (if_pos c1).mp hf
              exact hJ91 S l0 l1 l2 l3 hf H locs ls hH (lv_sub hl [0, 1, 2, 3] rfl)
            · have hf := (if_neg c1).mp hf
              refine lv_iload_n hx hb dX8_counted_43 rfl (lv_at hl 2 rfl) ?_
              refine lv_iload_n hx hb dX8_counted_44 rfl (lv_at hl 1 rfl) ?_
              refine lv_if_eq (tgt := 82) hx hb dX8_counted_45 (by decide) (fun c2 => ?_) (fun c2 => ?_)
              · have hf := (if_pos c2).mp hf
                exact hJ82 S l0 l1 l3 l4 l2 hf H locs ls hH (lv_sub hl [0, 1, 3, 4] rfl)
              · have hf := (if_neg c2).mp hf
                refine lv_aload_n hx hb dX8_counted_48 rfl (lv_at hl 0 rfl) ?_
                refine lv_iload_n hx hb dX8_counted_49 rfl (lv_at hl 3 rfl) ?_
                refine lv_iload hx hb dX8_counted_50 (lv_at hl 4 rfl) ?_
                obtain ⟨hb1, hb2, hf⟩ := hf
                refine q_backI0 X hH (q_runV [.int l3, .int l4] [.int l2] X hH hl (c_X8_w l D cy G X.2.2.2.1 S l0 l3 l4 _ _ hf) mf_X8_w mv_X8_w tw_1745 ⟨Nat.le_of_ble_eq_true rfl, Nat.le_of_ble_eq_true rfl⟩ hb1 hb2 (T := TX8) (N := 25) rfl rfl (Nat.le_of_ble_eq_true rfl) dX8_counted_52 ⟨Nat.le_of_ble_eq_true rfl, Nat.le_of_ble_eq_true rfl⟩) (fun v4 S3 hf H locs hH => ?_)
                refine lv_if_le (tgt := 82) hx hb dX8_counted_55 (by decide) (fun c5 => ?_) (fun c5 => ?_)
                · have hf := (if_pos c5).mp hf
                  exact hJ82 S3 l0 l1 l3 l4 l2 hf H locs ls hH (lv_sub hl [0, 1, 3, 4] rfl)
                · have hf := (if_neg c5).mp hf
                  refine lv_aload_n hx hb dX8_counted_58 rfl (lv_at hl 0 rfl) ?_
                  refine q_getR (T := TX8) (N := 25) X hH hf iw_X8 rfl (by decide) tw_1610 (fun _ h => h) dX8_counted_59 (fun v6 hf => ?_)
                  refine lv_iconst (v := 4) hx hb dX8_counted_62 (by decide) ?_
                  refine lv_iload_n hx hb dX8_counted_63 rfl (lv_at hl 3 rfl) ?_
                  refine lv_iadd hx hb dX8_counted_64 ?_
                  refine q_iald X hH hf dX8_counted_65 (fun v7 hf => ?_)
                  refine lv_aload_n hx hb dX8_counted_66 rfl (lv_at hl 0 rfl) ?_
                  refine q_getR (T := TX8) (N := 25) X hH hf iw_X8 rfl (by decide) tw_1610 (fun _ h => h) dX8_counted_67 (fun v8 hf => ?_)
                  refine lv_iconst (v := 4) hx hb dX8_counted_70 (by decide) ?_
                  refine lv_iload hx hb dX8_counted_71 (lv_at hl 4 rfl) ?_
                  refine lv_iadd hx hb dX8_counted_73 ?_
                  refine q_iald X hH hf dX8_counted_74 (fun v9 hf => ?_)
                  refine lv_icmp_eq (tgt := 82) hx hb dX8_counted_75 (by decide) (fun c10 => ?_) (fun c10 => ?_)
                  · have hf := (if_pos c10).mp hf
                    exact hJ82 S3 l0 l1 l3 l4 l2 hf H locs ls hH (lv_sub hl [0, 1, 3, 4] rfl)
                  · have hf := (if_neg c10).mp hf
                    refine lv_iconst (v := 1) hx hb dX8_counted_78 (by decide) ?_
                    refine lv_goto (tgt := 83) hx hb dX8_counted_79 (by decide) ?_
                    exact hJ83 S3 l0 l1 l3 l4 1 l2 hf H locs ls hH (lv_sub hl [0, 1, 3, 4] rfl)
        refine lv_iadd hx hb dX8_counted_32 ?_
        refine lv_istore_n (lv' := [(2, .int (t1 + t0)), (0, .ref l0), (1, .int l1), (3, .int l3)]) hx hb dX8_counted_33 rfl hl (by decide) rfl (fun ls hl => ?_)
        refine lv_iconst (v := 0) hx hb dX8_counted_34 (by decide) ?_
        refine lv_istore (lv' := [(4, .int 0), (2, .int (t1 + t0)), (0, .ref l0), (1, .int l1), (3, .int l3)]) hx hb dX8_counted_35 hl (by decide) rfl (fun ls hl => ?_)
        exact hL37 4096 S l0 l1 (t1 + t0) l3 0 hf H locs ls hH (lv_sub hl [2, 3, 1, 4, 0] rfl)
      have hJ31 : ∀ (S : PS) (l0 : Nat) (l1 : Int32) (l3 : Int32) (t0 : Int32), f_X8_counted_J31 post (f_X8_counted_L4 post n4) S l0 l1 l3 t0 → ∀ (H : Heap) (locs : List Loc) (ls : Array Slot), p_H D cy S A s H locs → lv_has ls 5 [(0, .ref l0), (1, .int l1), (3, .int l3)] → W p l e rm_X8_counted s m [.ref a0, .int a1].toArray below meth c H locs 0 0 (MQ below (va_Qi post (p_Post D cy A) A) [.ref a0, .int a1].toArray s 0 0 A) (F0 m 31 ls [.int t0]) := by
        intro S l0 l1 l3 t0 hf H locs ls hH hl
        refine lv_iconst (v := 0) hx hb dX8_counted_31 (by decide) ?_
        exact hJ32 S l0 l1 l3 0 t0 hf H locs ls hH hl
      refine lv_iload_n hx hb dX8_counted_4 rfl (lv_at hl 3 rfl) ?_
      refine lv_aload_n hx hb dX8_counted_5 rfl (lv_at hl 0 rfl) ?_
      refine q_getR (T := TX8) (N := 25) X hH hf iw_X8 rfl (by decide) tw_1610 (fun _ h => h) dX8_counted_6 (fun v1 hf => ?_)
      refine lv_iconst (v := 0) hx hb dX8_counted_9 (by decide) ?_
      refine q_iald X hH hf dX8_counted_10 (fun v2 hf => ?_)
      refine lv_icmp_ge (tgt := 97) hx hb dX8_counted_11 (by decide) (fun c3 => ?_) (fun c3 => ?_)
      · have hf := (if_pos c3).mp hf
        refine lv_iload_n hx hb dX8_counted_97 rfl (lv_at hl 2 rfl) ?_
        exact q_retI X hH hr hlk hf (Nat.zero_le _) (Nat.zero_le _) dX8_counted_98
      · have hf := (if_neg c3).mp hf
        refine lv_iload_n hx hb dX8_counted_14 rfl (lv_at hl 2 rfl) ?_
        refine lv_iload_n hx hb dX8_counted_15 rfl (lv_at hl 1 rfl) ?_
        refine lv_if_ne (tgt := 31) hx hb dX8_counted_16 (by decide) (fun c4 => ?_) (fun c4 => ?_)
        · have hf := (if_neg c4).mp hf
          exact hJ31 S l0 l1 l3 l2 hf H locs ls hH (lv_sub hl [0, 1, 3] rfl)
        · have hf := (if_pos c4).mp hf
          refine lv_aload_n hx hb dX8_counted_19 rfl (lv_at hl 0 rfl) ?_
          refine lv_iload_n hx hb dX8_counted_20 rfl (lv_at hl 3 rfl) ?_
          obtain ⟨hb1, hb2, hf⟩ := hf
          refine q_backI0 X hH (q_runV [.int l3] [.int l2] X hH hl (c_X8_bondsOf l D cy G X.2.2.2.1 S l0 l3 _ _ hf) mf_X8_bondsOf mv_X8_bondsOf tw_1773 ⟨Nat.le_of_ble_eq_true rfl, Nat.le_of_ble_eq_true rfl⟩ hb1 hb2 (T := TX8) (N := 25) rfl rfl (Nat.le_of_ble_eq_true rfl) dX8_counted_21 ⟨Nat.le_of_ble_eq_true rfl, Nat.le_of_ble_eq_true rfl⟩) (fun v6 S5 hf H locs hH => ?_)
          refine lv_if_ne (tgt := 31) hx hb dX8_counted_24 (by decide) (fun c7 => ?_) (fun c7 => ?_)
          · have hf := (if_neg c7).mp hf
            exact hJ31 S5 l0 l1 l3 l2 hf H locs ls hH (lv_sub hl [0, 1, 3] rfl)
          · have hf := (if_pos c7).mp hf
            refine lv_iconst (v := 1) hx hb dX8_counted_27 (by decide) ?_
            refine lv_goto (tgt := 32) hx hb dX8_counted_28 (by decide) ?_
            exact hJ32 S5 l0 l1 l3 1 l2 hf H locs ls hH (lv_sub hl [0, 1, 3] rfl)
  refine lv_iconst (v := 0) hx hb dX8_counted_0 (by decide) ?_
  refine lv_istore_n (lv' := [(2, .int 0), (0, .ref a0), (1, .int a1)]) hx hb dX8_counted_1 rfl hl (by decide) rfl (fun ls hl => ?_)
  refine lv_iconst (v := 0) hx hb dX8_counted_2 (by decide) ?_
  refine lv_istore_n (lv' := [(3, .int 0), (2, .int 0), (0, .ref a0), (1, .int a1)]) hx hb dX8_counted_3 rfl hl (by decide) rfl (fun ls hl => ?_)
  exact hL4 4096 S a0 a1 0 0 hf H locs ls hH (lv_sub hl [2, 3, 1, 0] rfl)
-- X8_onOne
def f_X8_onOne_L4 (post : Int32 → PS → Prop) : Nat → PS → Nat → Int32 → Int32 → Prop
  | 0, _, _, _, _ => False
  | n + 1, S, l0, l1, l2 =>
  gR S l0 12 1 fun v1 => (
  aI S v1 0 0 fun v2 => (
  if v2 ≤ l2 then
    post l1 S
  else
    gR S l0 12 1 fun v4 => (
    aI S v4 0 ((4 : Int32) + l2) fun v5 => (
    (f_X8_onOne_L4 post n) S l0 (l1 + v5) (l2 + 1)))))
def f_X8_onOne (S : PS) (a0 : Nat) (post : Int32 → PS → Prop) : Prop :=
  f_X8_onOne_L4 post 4096 S a0 0 0
abbrev rm_X8_onOne : Room := { frames := 0, cells := 0, slots := 0, locals := 0 }
set_option maxHeartbeats 4000000 in
set_option maxRecDepth 100000 in
theorem c_X8_onOne (l : Launch) (D : va_G) (cy : Nat → ClassId) (G : p_GT) (hG : p_ok G) (S : PS) (a0 : Nat) (post : Int32 → PS → Prop) (sz : Nat) (hf : f_X8_onOne S a0 post) : p_Mi l D cy G S sz yX8_onOne (Cond.code yX8_onOne cX8_onOne 3 (some .int) :: wG) rm_X8_onOne [.ref a0] 0 0 post := by
  refine q_start hG (Qc := fun A => va_Qi post (p_Post D cy A) A) mf_X8_onOne (Nat.le_of_ble_eq_true rfl) (own := RX8) rfl ?_
  intro p e s m below meth c A X hr hlk hnm ls hl hH
  have hx := X.1.1
  have hb := X.1.2.1
  replace hl : lv_has ls 3 [(0, .ref a0)] := hl
  obtain ⟨H, hHe⟩ : ∃ H, H = s.heap := ⟨_, rfl⟩
  obtain ⟨locs, hlo⟩ : ∃ locs : List Loc, locs = [] := ⟨_, rfl⟩
  rw [← hHe, ← hlo] at hH
  show W p l e rm_X8_onOne s m [.ref a0].toArray below meth c s.heap [] 0 0 _ _
  rw [← hHe, ← hlo]
  have hL4 : ∀ (n4 : Nat) (S : PS) (l0 : Nat) (l1 : Int32) (l2 : Int32), f_X8_onOne_L4 post n4 S l0 l1 l2 → ∀ (H : Heap) (locs : List Loc) (ls : Array Slot), p_H D cy S A s H locs → lv_has ls 3 [(0, .ref l0), (1, .int l1), (2, .int l2)] → W p l e rm_X8_onOne s m [.ref a0].toArray below meth c H locs 0 0 (MQ below (va_Qi post (p_Post D cy A) A) [.ref a0].toArray s 0 0 A) (F0 m 4 ls []) := by
    intro n4
    induction n4 with
    | zero => intro S l0 l1 l2 hf; exact hf.elim
    | succ n4 ih4 =>
      intro S l0 l1 l2 hf H locs ls hH hl
      refine lv_iload_n hx hb dX8_onOne_4 rfl (lv_at hl 2 rfl) ?_
      refine lv_aload_n hx hb dX8_onOne_5 rfl (lv_at hl 0 rfl) ?_
      refine q_getR (T := TX8) (N := 25) X hH hf iw_X8 rfl (by decide) tw_1610 (fun _ h => h) dX8_onOne_6 (fun v1 hf => ?_)
      refine lv_iconst (v := 0) hx hb dX8_onOne_9 (by decide) ?_
      refine q_iald X hH hf dX8_onOne_10 (fun v2 hf => ?_)
      refine lv_icmp_ge (tgt := 31) hx hb dX8_onOne_11 (by decide) (fun c3 => ?_) (fun c3 => ?_)
      · have hf := (if_pos c3).mp hf
        refine lv_iload_n hx hb dX8_onOne_31 rfl (lv_at hl 1 rfl) ?_
        exact q_retI X hH hr hlk hf (Nat.zero_le _) (Nat.zero_le _) dX8_onOne_32
      · have hf := (if_neg c3).mp hf
        refine lv_iload_n hx hb dX8_onOne_14 rfl (lv_at hl 1 rfl) ?_
        refine lv_aload_n hx hb dX8_onOne_15 rfl (lv_at hl 0 rfl) ?_
        refine q_getR (T := TX8) (N := 25) X hH hf iw_X8 rfl (by decide) tw_1610 (fun _ h => h) dX8_onOne_16 (fun v4 hf => ?_)
        refine lv_iconst (v := 4) hx hb dX8_onOne_19 (by decide) ?_
        refine lv_iload_n hx hb dX8_onOne_20 rfl (lv_at hl 2 rfl) ?_
        refine lv_iadd hx hb dX8_onOne_21 ?_
        refine q_iald X hH hf dX8_onOne_22 (fun v5 hf => ?_)
        refine lv_iadd hx hb dX8_onOne_23 ?_
        refine lv_istore_n (lv' := [(1, .int (l1 + v5)), (0, .ref l0), (2, .int l2)]) hx hb dX8_onOne_24 rfl hl (by decide) rfl (fun ls hl => ?_)
        refine lv_iinc (v := l2 + 1) (lv' := [(2, .int (l2 + 1)), (1, .int (l1 + v5)), (0, .ref l0)]) hx hb dX8_onOne_25 hl (k := 2) rfl rfl (by decide) rfl (fun ls hl => ?_)
        refine lv_goto (tgt := 4) hx hb dX8_onOne_28 (by decide) ?_
        exact ih4 S l0 (l1 + v5) (l2 + 1) hf H locs ls hH (lv_sub hl [2, 1, 0] rfl)
  refine lv_iconst (v := 0) hx hb dX8_onOne_0 (by decide) ?_
  refine lv_istore_n (lv' := [(1, .int 0), (0, .ref a0)]) hx hb dX8_onOne_1 rfl hl (by decide) rfl (fun ls hl => ?_)
  refine lv_iconst (v := 0) hx hb dX8_onOne_2 (by decide) ?_
  refine lv_istore_n (lv' := [(2, .int 0), (1, .int 0), (0, .ref a0)]) hx hb dX8_onOne_3 rfl hl (by decide) rfl (fun ls hl => ?_)
  exact hL4 4096 S a0 0 0 hf H locs ls hH (lv_sub hl [2, 1, 0] rfl)
-- X8_account
def f_X8_account_J100 (post : Int32 → PS → Prop) (S : PS) (l0 : Nat) (l1 : Int32) : Prop :=
  gR S l0 12 1 fun v1 => (
  aI S v1 0 (l1 - 4) fun v2 => (
  post v2 S))
def f_X8_account (S : PS) (a0 : Nat) (a1 : Int32) (post : Int32 → PS → Prop) : Prop :=
  f_X8_in S a1 0 10 fun v2 S1 => (
  isO S1 a0 12 (
  f_X8_isThere S1 a0 v2 fun v4 S3 => (
  if v4 = 0 then
    post 0 S3
  else
    if a1 = 0 then
      gR S3 a0 12 1 fun v7 => (
      aI S3 v7 0 0 fun v8 => (
      post v8 S3))
    else
    if a1 = 1 then
      isO S3 a0 12 (
      f_X8_bondMany S3 a0 fun v11 S10 => (
      post v11 S10))
    else
    if a1 = 2 then
      isO S3 a0 12 (
      f_X8_weights S3 a0 fun v14 S13 => (
      post v14 S13))
    else
    if a1 = 3 then
      isO S3 a0 12 (
      f_X8_onOne S3 a0 fun v17 S16 => (
      post v17 S16))
    else
    if a1 = 4 then
      isO S3 a0 12 (
      f_X8_counted S3 a0 1 fun v20 S19 => (
      post v20 S19))
    else
    if a1 = 5 then
      f_X8_account_J100 post S3 a0 a1
    else
    if a1 = 6 then
      f_X8_account_J100 post S3 a0 a1
    else
    if a1 = 7 then
      f_X8_account_J100 post S3 a0 a1
    else
    if a1 = 8 then
      isO S3 a0 12 (
      f_X8_counted S3 a0 0 fun v26 S25 => (
      post v26 S25))
    else
    if a1 = 9 then
      gI S3 a0 12 17 fun v28 => (
      post v28 S3)
    else
      gI S3 a0 12 2 fun v29 => (
      post v29 S3))))
abbrev rm_X8_account : Room := { frames := 3, cells := 0, slots := 0, locals := 69 }
set_option maxHeartbeats 4000000 in
set_option maxRecDepth 100000 in
theorem c_X8_account (l : Launch) (D : va_G) (cy : Nat → ClassId) (G : p_GT) (hG : p_ok G) (S : PS) (a0 : Nat) (a1 : Int32) (post : Int32 → PS → Prop) (sz : Nat) (hf : f_X8_account S a0 a1 post) : p_Mi l D cy G S sz yX8_account (Cond.code yX8_account cX8_account 2 (some .int) :: wG) rm_X8_account [.ref a0, .int a1] 0 0 post := by
  refine q_start hG (Qc := fun A => va_Qi post (p_Post D cy A) A) mf_X8_account (Nat.le_of_ble_eq_true rfl) (own := RX8) rfl ?_
  intro p e s m below meth c A X hr hlk hnm ls hl hH
  have hx := X.1.1
  have hb := X.1.2.1
  replace hl : lv_has ls 2 [(0, .ref a0), (1, .int a1)] := hl
  obtain ⟨H, hHe⟩ : ∃ H, H = s.heap := ⟨_, rfl⟩
  obtain ⟨locs, hlo⟩ : ∃ locs : List Loc, locs = [] := ⟨_, rfl⟩
  rw [← hHe, ← hlo] at hH
  show W p l e rm_X8_account s m [.ref a0, .int a1].toArray below meth c s.heap [] 0 0 _ _
  rw [← hHe, ← hlo]
  have hJ100 : ∀ (S : PS) (l0 : Nat) (l1 : Int32), f_X8_account_J100 post S l0 l1 → ∀ (H : Heap) (locs : List Loc) (ls : Array Slot), p_H D cy S A s H locs → lv_has ls 2 [(0, .ref l0), (1, .int l1)] → W p l e rm_X8_account s m [.ref a0, .int a1].toArray below meth c H locs 0 0 (MQ below (va_Qi post (p_Post D cy A) A) [.ref a0, .int a1].toArray s 0 0 A) (F0 m 100 ls []) := by
    intro S l0 l1 hf H locs ls hH hl
    refine lv_aload_n hx hb dX8_account_100 rfl (lv_at hl 0 rfl) ?_
    refine q_getR (T := TX8) (N := 25) X hH hf iw_X8 rfl (by decide) tw_1610 (fun _ h => h) dX8_account_101 (fun v1 hf => ?_)
    refine lv_iload_n hx hb dX8_account_104 rfl (lv_at hl 1 rfl) ?_
    refine lv_iconst (v := 4) hx hb dX8_account_105 (by decide) ?_
    refine lv_isub hx hb dX8_account_106 ?_
    refine q_iald X hH hf dX8_account_107 (fun v2 hf => ?_)
    exact q_retI X hH hr hlk hf (Nat.zero_le _) (Nat.zero_le _) dX8_account_108
  refine lv_aload_n hx hb dX8_account_0 rfl (lv_at hl 0 rfl) ?_
  refine lv_iload_n hx hb dX8_account_1 rfl (lv_at hl 1 rfl) ?_
  refine lv_iconst (v := 0) hx hb dX8_account_2 (by decide) ?_
  refine lv_bipush (v := 10) hx hb dX8_account_3 (by decide) ?_
  refine q_backI0 X hH (q_runS [.int a1, .int 0, .int 10] [.ref a0] X hH hl (c_X8_in l D cy G X.2.2.2.1 S a1 0 10 _ _ hf) mf_X8_in tw_1695 tw_1694 ⟨Nat.le_of_ble_eq_true rfl, Nat.le_of_ble_eq_true rfl⟩ rfl (Nat.le_of_ble_eq_true rfl) dX8_account_5 ⟨Nat.le_of_ble_eq_true rfl, Nat.le_of_ble_eq_true rfl⟩) (fun v2 S1 hf H locs hH => ?_)
  obtain ⟨hb1, hb2, hf⟩ := hf
  refine q_backI0 X hH (q_runV [.int v2] [] X hH hl (c_X8_isThere l D cy G X.2.2.2.1 S1 a0 v2 _ _ hf) mf_X8_isThere mv_X8_isThere tw_1868 ⟨Nat.le_of_ble_eq_true rfl, Nat.le_of_ble_eq_true rfl⟩ hb1 hb2 (T := TX8) (N := 25) rfl rfl (Nat.le_of_ble_eq_true rfl) dX8_account_8 ⟨Nat.le_of_ble_eq_true rfl, Nat.le_of_ble_eq_true rfl⟩) (fun v4 S3 hf H locs hH => ?_)
  refine lv_if_ne (tgt := 16) hx hb dX8_account_11 (by decide) (fun c5 => ?_) (fun c5 => ?_)
  · have hf := (if_neg c5).mp hf
    refine lv_iload_n hx hb dX8_account_16 rfl (lv_at hl 1 rfl) ?_
    by_cases c6 : a1 = 0
    · have hf := (if_pos c6).mp hf
      refine lv_tableIn (off := 55) (tgt := 72) hx hb dX8_account_17 (by rw [c6]; decide) (by rw [c6]; decide) (by rw [c6]; rfl) (by decide) ?_
      refine lv_aload_n hx hb dX8_account_72 rfl (lv_at hl 0 rfl) ?_
      refine q_getR (T := TX8) (N := 25) X hH hf iw_X8 rfl (by decide) tw_1610 (fun _ h => h) dX8_account_73 (fun v7 hf => ?_)
      refine lv_iconst (v := 0) hx hb dX8_account_76 (by decide) ?_
      refine q_iald X hH hf dX8_account_77 (fun v8 hf => ?_)
      exact q_retI X hH hr hlk hf (Nat.zero_le _) (Nat.zero_le _) dX8_account_78
    · have hf := (if_neg c6).mp hf
      by_cases c9 : a1 = 1
      · have hf := (if_pos c9).mp hf
        refine lv_tableIn (off := 62) (tgt := 79) hx hb dX8_account_17 (by rw [c9]; decide) (by rw [c9]; decide) (by rw [c9]; rfl) (by decide) ?_
        refine lv_aload_n hx hb dX8_account_79 rfl (lv_at hl 0 rfl) ?_
        obtain ⟨hb1, hb2, hf⟩ := hf
        refine q_backI0 X hH (q_runV [] [] X hH hl (c_X8_bondMany l D cy G X.2.2.2.1 S3 a0 _ _ hf) mf_X8_bondMany mv_X8_bondMany tw_1769 ⟨Nat.le_of_ble_eq_true rfl, Nat.le_of_ble_eq_true rfl⟩ hb1 hb2 (T := TX8) (N := 25) rfl rfl (Nat.le_of_ble_eq_true rfl) dX8_account_80 ⟨Nat.le_of_ble_eq_true rfl, Nat.le_of_ble_eq_true rfl⟩) (fun v11 S10 hf H locs hH => ?_)
        exact q_retI X hH hr hlk hf (Nat.zero_le _) (Nat.zero_le _) dX8_account_83
      · have hf := (if_neg c9).mp hf
        by_cases c12 : a1 = 2
        · have hf := (if_pos c12).mp hf
          refine lv_tableIn (off := 67) (tgt := 84) hx hb dX8_account_17 (by rw [c12]; decide) (by rw [c12]; decide) (by rw [c12]; rfl) (by decide) ?_
          refine lv_aload_n hx hb dX8_account_84 rfl (lv_at hl 0 rfl) ?_
          obtain ⟨hb1, hb2, hf⟩ := hf
          refine q_backI0 X hH (q_runV [] [] X hH hl (c_X8_weights l D cy G X.2.2.2.1 S3 a0 _ _ hf) mf_X8_weights mv_X8_weights tw_2068 ⟨Nat.le_of_ble_eq_true rfl, Nat.le_of_ble_eq_true rfl⟩ hb1 hb2 (T := TX8) (N := 25) rfl rfl (Nat.le_of_ble_eq_true rfl) dX8_account_85 ⟨Nat.le_of_ble_eq_true rfl, Nat.le_of_ble_eq_true rfl⟩) (fun v14 S13 hf H locs hH => ?_)
          exact q_retI X hH hr hlk hf (Nat.zero_le _) (Nat.zero_le _) dX8_account_88
        · have hf := (if_neg c12).mp hf
          by_cases c15 : a1 = 3
          · have hf := (if_pos c15).mp hf
            refine lv_tableIn (off := 72) (tgt := 89) hx hb dX8_account_17 (by rw [c15]; decide) (by rw [c15]; decide) (by rw [c15]; rfl) (by decide) ?_
            refine lv_aload_n hx hb dX8_account_89 rfl (lv_at hl 0 rfl) ?_
            obtain ⟨hb1, hb2, hf⟩ := hf
            refine q_backI0 X hH (q_runV [] [] X hH hl (c_X8_onOne l D cy G X.2.2.2.1 S3 a0 _ _ hf) mf_X8_onOne mv_X8_onOne tw_2072 ⟨Nat.le_of_ble_eq_true rfl, Nat.le_of_ble_eq_true rfl⟩ hb1 hb2 (T := TX8) (N := 25) rfl rfl (Nat.le_of_ble_eq_true rfl) dX8_account_90 ⟨Nat.le_of_ble_eq_true rfl, Nat.le_of_ble_eq_true rfl⟩) (fun v17 S16 hf H locs hH => ?_)
            exact q_retI X hH hr hlk hf (Nat.zero_le _) (Nat.zero_le _) dX8_account_93
          · have hf := (if_neg c15).mp hf
            by_cases c18 : a1 = 4
            · have hf := (if_pos c18).mp hf
              refine lv_tableIn (off := 77) (tgt := 94) hx hb dX8_account_17 (by rw [c18]; decide) (by rw [c18]; decide) (by rw [c18]; rfl) (by decide) ?_
              refine lv_aload_n hx hb dX8_account_94 rfl (lv_at hl 0 rfl) ?_
              refine lv_iconst (v := 1) hx hb dX8_account_95 (by decide) ?_
              obtain ⟨hb1, hb2, hf⟩ := hf
              refine q_backI0 X hH (q_runV [.int 1] [] X hH hl (c_X8_counted l D cy G X.2.2.2.1 S3 a0 1 _ _ hf) mf_X8_counted mv_X8_counted tw_2076 ⟨Nat.le_of_ble_eq_true rfl, Nat.le_of_ble_eq_true rfl⟩ hb1 hb2 (T := TX8) (N := 25) rfl rfl (Nat.le_of_ble_eq_true rfl) dX8_account_96 ⟨Nat.le_of_ble_eq_true rfl, Nat.le_of_ble_eq_true rfl⟩) (fun v20 S19 hf H locs hH => ?_)
              exact q_retI X hH hr hlk hf (Nat.zero_le _) (Nat.zero_le _) dX8_account_99
            · have hf := (if_neg c18).mp hf
              by_cases c21 : a1 = 5
              · have hf := (if_pos c21).mp hf
                refine lv_tableIn (off := 83) (tgt := 100) hx hb dX8_account_17 (by rw [c21]; decide) (by rw [c21]; decide) (by rw [c21]; rfl) (by decide) ?_
                exact hJ100 S3 a0 a1 hf H locs ls hH hl
              · have hf := (if_neg c21).mp hf
                by_cases c22 : a1 = 6
                · have hf := (if_pos c22).mp hf
                  refine lv_tableIn (off := 83) (tgt := 100) hx hb dX8_account_17 (by rw [c22]; decide) (by rw [c22]; decide) (by rw [c22]; rfl) (by decide) ?_
                  exact hJ100 S3 a0 a1 hf H locs ls hH hl
                · have hf := (if_neg c22).mp hf
                  by_cases c23 : a1 = 7
                  · have hf := (if_pos c23).mp hf
                    refine lv_tableIn (off := 83) (tgt := 100) hx hb dX8_account_17 (by rw [c23]; decide) (by rw [c23]; decide) (by rw [c23]; rfl) (by decide) ?_
                    exact hJ100 S3 a0 a1 hf H locs ls hH hl
                  · have hf := (if_neg c23).mp hf
                    by_cases c24 : a1 = 8
                    · have hf := (if_pos c24).mp hf
                      refine lv_tableIn (off := 92) (tgt := 109) hx hb dX8_account_17 (by rw [c24]; decide) (by rw [c24]; decide) (by rw [c24]; rfl) (by decide) ?_
                      refine lv_aload_n hx hb dX8_account_109 rfl (lv_at hl 0 rfl) ?_
                      refine lv_iconst (v := 0) hx hb dX8_account_110 (by decide) ?_
                      obtain ⟨hb1, hb2, hf⟩ := hf
                      refine q_backI0 X hH (q_runV [.int 0] [] X hH hl (c_X8_counted l D cy G X.2.2.2.1 S3 a0 0 _ _ hf) mf_X8_counted mv_X8_counted tw_2076 ⟨Nat.le_of_ble_eq_true rfl, Nat.le_of_ble_eq_true rfl⟩ hb1 hb2 (T := TX8) (N := 25) rfl rfl (Nat.le_of_ble_eq_true rfl) dX8_account_111 ⟨Nat.le_of_ble_eq_true rfl, Nat.le_of_ble_eq_true rfl⟩) (fun v26 S25 hf H locs hH => ?_)
                      exact q_retI X hH hr hlk hf (Nat.zero_le _) (Nat.zero_le _) dX8_account_114
                    · have hf := (if_neg c24).mp hf
                      by_cases c27 : a1 = 9
                      · have hf := (if_pos c27).mp hf
                        refine lv_tableIn (off := 98) (tgt := 115) hx hb dX8_account_17 (by rw [c27]; decide) (by rw [c27]; decide) (by rw [c27]; rfl) (by decide) ?_
                        refine lv_aload_n hx hb dX8_account_115 rfl (lv_at hl 0 rfl) ?_
                        refine q_getI (T := TX8) (N := 25) X hH hf iw_X8 rfl (by decide) tw_1626 (fun _ h => h) dX8_account_116 (fun v28 hf => ?_)
                        exact q_retI X hH hr hlk hf (Nat.zero_le _) (Nat.zero_le _) dX8_account_119
                      · have hf := (if_neg c27).mp hf
                        refine lv_tableOut (tgt := 120) hx hb dX8_account_17 (by have z0 := lv_neT c6 (a := 0) rfl; have z1 := lv_neT c9 (a := 1) rfl; have z2 := lv_neT c12 (a := 2) rfl; have z3 := lv_neT c15 (a := 3) rfl; have z4 := lv_neT c18 (a := 4) rfl; have z5 := lv_neT c21 (a := 5) rfl; have z6 := lv_neT c22 (a := 6) rfl; have z7 := lv_neT c23 (a := 7) rfl; have z8 := lv_neT c24 (a := 8) rfl; have z9 := lv_neT c27 (a := 9) rfl; omega) (by decide) ?_
                        refine lv_aload_n hx hb dX8_account_120 rfl (lv_at hl 0 rfl) ?_
                        refine q_getI (T := TX8) (N := 25) X hH hf iw_X8 rfl (by decide) tw_1611 (fun _ h => h) dX8_account_121 (fun v29 hf => ?_)
                        exact q_retI X hH hr hlk hf (Nat.zero_le _) (Nat.zero_le _) dX8_account_124
  · have hf := (if_pos c5).mp hf
    refine lv_iconst (v := 0) hx hb dX8_account_14 (by decide) ?_
    exact q_retI X hH hr hlk hf (Nat.zero_le _) (Nat.zero_le _) dX8_account_15
-- X8_meanWeight
def f_X8_meanWeight_J15 (post : UInt64 → PS → Prop) (S : PS) (l0 : Nat) (l1 : Int32) (t0 : Int32) (t1 : Nat) : Prop :=
  isO S t1 12 (
  f_X8_isThere S t1 t0 fun v2 S1 => (
  if v2 = 0 then
    post (0 : UInt64) S1
  else
    isO S1 l0 12 (
    f_X8_weights S1 l0 fun v5 S4 => (
    vf_n64 (FP.ddiv (FP.i2d v5) (FP.i2d l1)) ∧ (
    post (FP.ddiv (FP.i2d v5) (FP.i2d l1)) S4)))))
def f_X8_meanWeight (S : PS) (a0 : Nat) (post : UInt64 → PS → Prop) : Prop :=
  isO S a0 12 (
  f_X8_bondMany S a0 fun v2 S1 => (
  if v2 ≤ 0 then
    f_X8_meanWeight_J15 post S1 a0 v2 0 a0
  else
    f_X8_meanWeight_J15 post S1 a0 v2 1 a0))
abbrev rm_X8_meanWeight : Room := { frames := 3, cells := 0, slots := 0, locals := 67 }
set_option maxHeartbeats 4000000 in
set_option maxRecDepth 100000 in
theorem c_X8_meanWeight (l : Launch) (D : va_G) (cy : Nat → ClassId) (G : p_GT) (hG : p_ok G) (S : PS) (a0 : Nat) (post : UInt64 → PS → Prop) (sz : Nat) (hf : f_X8_meanWeight S a0 post) : p_Md l D cy G S sz yX8_meanWeight (Cond.code yX8_meanWeight cX8_meanWeight 2 (some .double) :: wG) rm_X8_meanWeight [.ref a0] 0 0 post := by
  refine q_start hG (Qc := fun A => va_Qd post (p_Post D cy A) A) mf_X8_meanWeight (Nat.le_of_ble_eq_true rfl) (own := RX8) rfl ?_
  intro p e s m below meth c A X hr hlk hnm ls hl hH
  have hx := X.1.1
  have hb := X.1.2.1
  replace hl : lv_has ls 2 [(0, .ref a0)] := hl
  obtain ⟨H, hHe⟩ : ∃ H, H = s.heap := ⟨_, rfl⟩
  obtain ⟨locs, hlo⟩ : ∃ locs : List Loc, locs = [] := ⟨_, rfl⟩
  rw [← hHe, ← hlo] at hH
  show W p l e rm_X8_meanWeight s m [.ref a0].toArray below meth c s.heap [] 0 0 _ _
  rw [← hHe, ← hlo]
  have hJ15 : ∀ (S : PS) (l0 : Nat) (l1 : Int32) (t0 : Int32) (t1 : Nat), f_X8_meanWeight_J15 post S l0 l1 t0 t1 → ∀ (H : Heap) (locs : List Loc) (ls : Array Slot), p_H D cy S A s H locs → lv_has ls 2 [(0, .ref l0), (1, .int l1)] → W p l e rm_X8_meanWeight s m [.ref a0].toArray below meth c H locs 0 0 (MQ below (va_Qd post (p_Post D cy A) A) [.ref a0].toArray s 0 0 A) (F0 m 15 ls [.int t0, .ref t1]) := by
    intro S l0 l1 t0 t1 hf H locs ls hH hl
    obtain ⟨hb1, hb2, hf⟩ := hf
    refine q_backI0 X hH (q_runV [.int t0] [] X hH hl (c_X8_isThere l D cy G X.2.2.2.1 S t1 t0 _ _ hf) mf_X8_isThere mv_X8_isThere tw_1868 ⟨Nat.le_of_ble_eq_true rfl, Nat.le_of_ble_eq_true rfl⟩ hb1 hb2 (T := TX8) (N := 25) rfl rfl (Nat.le_of_ble_eq_true rfl) dX8_meanWeight_15 ⟨Nat.le_of_ble_eq_true rfl, Nat.le_of_ble_eq_true rfl⟩) (fun v2 S1 hf H locs hH => ?_)
    refine lv_if_eq (tgt := 32) hx hb dX8_meanWeight_18 (by decide) (fun c3 => ?_) (fun c3 => ?_)
    · have hf := (if_pos c3).mp hf
      refine lv_dconst0 hx hb dX8_meanWeight_32 ?_
      exact q_retD X hH hr hlk hf (Nat.zero_le _) (Nat.zero_le _) dX8_meanWeight_33
    · have hf := (if_neg c3).mp hf
      refine lv_aload_n hx hb dX8_meanWeight_21 rfl (lv_at hl 0 rfl) ?_
      obtain ⟨hb1, hb2, hf⟩ := hf
      refine q_backI0 X hH (q_runV [] [] X hH hl (c_X8_weights l D cy G X.2.2.2.1 S1 l0 _ _ hf) mf_X8_weights mv_X8_weights tw_2068 ⟨Nat.le_of_ble_eq_true rfl, Nat.le_of_ble_eq_true rfl⟩ hb1 hb2 (T := TX8) (N := 25) rfl rfl (Nat.le_of_ble_eq_true rfl) dX8_meanWeight_22 ⟨Nat.le_of_ble_eq_true rfl, Nat.le_of_ble_eq_true rfl⟩) (fun v5 S4 hf H locs hH => ?_)
      refine lv_i2d hx hb dX8_meanWeight_25 ?_
      refine lv_iload_n hx hb dX8_meanWeight_26 rfl (lv_at hl 1 rfl) ?_
      refine lv_i2d hx hb dX8_meanWeight_27 ?_
      refine lv_ddiv hx hb dX8_meanWeight_28 hf.1 ?_
      have hf := hf.2
      refine lv_goto (tgt := 33) hx hb dX8_meanWeight_29 (by decide) ?_
      exact q_retD X hH hr hlk hf (Nat.zero_le _) (Nat.zero_le _) dX8_meanWeight_33
  refine lv_aload_n hx hb dX8_meanWeight_0 rfl (lv_at hl 0 rfl) ?_
  obtain ⟨hb1, hb2, hf⟩ := hf
  refine q_backI0 X hH (q_runV [] [] X hH hl (c_X8_bondMany l D cy G X.2.2.2.1 S a0 _ _ hf) mf_X8_bondMany mv_X8_bondMany tw_1769 ⟨Nat.le_of_ble_eq_true rfl, Nat.le_of_ble_eq_true rfl⟩ hb1 hb2 (T := TX8) (N := 25) rfl rfl (Nat.le_of_ble_eq_true rfl) dX8_meanWeight_1 ⟨Nat.le_of_ble_eq_true rfl, Nat.le_of_ble_eq_true rfl⟩) (fun v2 S1 hf H locs hH => ?_)
  refine lv_istore_n (lv' := [(1, .int v2), (0, .ref a0)]) hx hb dX8_meanWeight_4 rfl hl (by decide) rfl (fun ls hl => ?_)
  refine lv_aload_n hx hb dX8_meanWeight_5 rfl (lv_at hl 1 rfl) ?_
  refine lv_iload_n hx hb dX8_meanWeight_6 rfl (lv_at hl 0 rfl) ?_
  refine lv_if_le (tgt := 14) hx hb dX8_meanWeight_7 (by decide) (fun c3 => ?_) (fun c3 => ?_)
  · have hf := (if_pos c3).mp hf
    refine lv_iconst (v := 0) hx hb dX8_meanWeight_14 (by decide) ?_
    exact hJ15 S1 a0 v2 0 a0 hf H locs ls hH (lv_sub hl [1, 0] rfl)
  · have hf := (if_neg c3).mp hf
    refine lv_iconst (v := 1) hx hb dX8_meanWeight_10 (by decide) ?_
    refine lv_goto (tgt := 15) hx hb dX8_meanWeight_11 (by decide) ?_
    exact hJ15 S1 a0 v2 1 a0 hf H locs ls hH (lv_sub hl [1, 0] rfl)
-- X8_feudShare
def f_X8_feudShare_J13 (post : UInt32 → PS → Prop) (S : PS) (l0 : Nat) (t0 : Int32) (t1 : Nat) : Prop :=
  isO S t1 12 (
  f_X8_isThere S t1 t0 fun v2 S1 => (
  if v2 = 0 then
    post (0 : UInt32) S1
  else
    isO S1 l0 12 (
    f_X8_sideSet S1 l0 fun v5 S4 => (
    isO S4 l0 12 (
    f_X8_feudOf S4 l0 v5 fun v7 S6 => (
    isO S6 l0 12 (
    f_X8_weights S6 l0 fun v9 S8 => (
    vf_n32 (FP.fdiv (FP.i2f v7) (FP.i2f v9)) ∧ (
    post (FP.fdiv (FP.i2f v7) (FP.i2f v9)) S8)))))))))
def f_X8_feudShare (S : PS) (a0 : Nat) (post : UInt32 → PS → Prop) : Prop :=
  isO S a0 12 (
  f_X8_bondMany S a0 fun v2 S1 => (
  if v2 ≤ 0 then
    f_X8_feudShare_J13 post S1 a0 0 a0
  else
    f_X8_feudShare_J13 post S1 a0 1 a0))
abbrev rm_X8_feudShare : Room := { frames := 3, cells := 0, slots := 0, locals := 68 }
set_option maxHeartbeats 4000000 in
set_option maxRecDepth 100000 in
theorem c_X8_feudShare (l : Launch) (D : va_G) (cy : Nat → ClassId) (G : p_GT) (hG : p_ok G) (S : PS) (a0 : Nat) (post : UInt32 → PS → Prop) (sz : Nat) (hf : f_X8_feudShare S a0 post) : p_Mf l D cy G S sz yX8_feudShare (Cond.code yX8_feudShare cX8_feudShare 1 (some .float) :: wG) rm_X8_feudShare [.ref a0] 0 0 post := by
  refine q_start hG (Qc := fun A => va_Qf post (p_Post D cy A) A) mf_X8_feudShare (Nat.le_of_ble_eq_true rfl) (own := RX8) rfl ?_
  intro p e s m below meth c A X hr hlk hnm ls hl hH
  have hx := X.1.1
  have hb := X.1.2.1
  replace hl : lv_has ls 1 [(0, .ref a0)] := hl
  obtain ⟨H, hHe⟩ : ∃ H, H = s.heap := ⟨_, rfl⟩
  obtain ⟨locs, hlo⟩ : ∃ locs : List Loc, locs = [] := ⟨_, rfl⟩
  rw [← hHe, ← hlo] at hH
  show W p l e rm_X8_feudShare s m [.ref a0].toArray below meth c s.heap [] 0 0 _ _
  rw [← hHe, ← hlo]
  have hJ13 : ∀ (S : PS) (l0 : Nat) (t0 : Int32) (t1 : Nat), f_X8_feudShare_J13 post S l0 t0 t1 → ∀ (H : Heap) (locs : List Loc) (ls : Array Slot), p_H D cy S A s H locs → lv_has ls 1 [(0, .ref l0)] → W p l e rm_X8_feudShare s m [.ref a0].toArray below meth c H locs 0 0 (MQ below (va_Qf post (p_Post D cy A) A) [.ref a0].toArray s 0 0 A) (F0 m 13 ls [.int t0, .ref t1]) := by
    intro S l0 t0 t1 hf H locs ls hH hl
    obtain ⟨hb1, hb2, hf⟩ := hf
    refine q_backI0 X hH (q_runV [.int t0] [] X hH hl (c_X8_isThere l D cy G X.2.2.2.1 S t1 t0 _ _ hf) mf_X8_isThere mv_X8_isThere tw_1868 ⟨Nat.le_of_ble_eq_true rfl, Nat.le_of_ble_eq_true rfl⟩ hb1 hb2 (T := TX8) (N := 25) rfl rfl (Nat.le_of_ble_eq_true rfl) dX8_feudShare_13 ⟨Nat.le_of_ble_eq_true rfl, Nat.le_of_ble_eq_true rfl⟩) (fun v2 S1 hf H locs hH => ?_)
    refine lv_if_eq (tgt := 37) hx hb dX8_feudShare_16 (by decide) (fun c3 => ?_) (fun c3 => ?_)
    · have hf := (if_pos c3).mp hf
      refine lv_fconst0 hx hb dX8_feudShare_37 ?_
      exact q_retF X hH hr hlk hf (Nat.zero_le _) (Nat.zero_le _) dX8_feudShare_38
    · have hf := (if_neg c3).mp hf
      refine lv_aload_n hx hb dX8_feudShare_19 rfl (lv_at hl 0 rfl) ?_
      refine lv_aload_n hx hb dX8_feudShare_20 rfl (lv_at hl 0 rfl) ?_
      obtain ⟨hb1, hb2, hf⟩ := hf
      refine q_backI0 X hH (q_runV [] [.ref l0] X hH hl (c_X8_sideSet l D cy G X.2.2.2.1 S1 l0 _ _ hf) mf_X8_sideSet mv_X8_sideSet tw_1793 ⟨Nat.le_of_ble_eq_true rfl, Nat.le_of_ble_eq_true rfl⟩ hb1 hb2 (T := TX8) (N := 25) rfl rfl (Nat.le_of_ble_eq_true rfl) dX8_feudShare_21 ⟨Nat.le_of_ble_eq_true rfl, Nat.le_of_ble_eq_true rfl⟩) (fun v5 S4 hf H locs hH => ?_)
      obtain ⟨hb1, hb2, hf⟩ := hf
      refine q_backI0 X hH (q_runV [.int v5] [] X hH hl (c_X8_feudOf l D cy G X.2.2.2.1 S4 l0 v5 _ _ hf) mf_X8_feudOf mv_X8_feudOf tw_1797 ⟨Nat.le_of_ble_eq_true rfl, Nat.le_of_ble_eq_true rfl⟩ hb1 hb2 (T := TX8) (N := 25) rfl rfl (Nat.le_of_ble_eq_true rfl) dX8_feudShare_24 ⟨Nat.le_of_ble_eq_true rfl, Nat.le_of_ble_eq_true rfl⟩) (fun v7 S6 hf H locs hH => ?_)
      refine lv_i2f hx hb dX8_feudShare_27 ?_
      refine lv_aload_n hx hb dX8_feudShare_28 rfl (lv_at hl 0 rfl) ?_
      obtain ⟨hb1, hb2, hf⟩ := hf
      refine q_backI0 X hH (q_runV [] [.float (FP.i2f v7)] X hH hl (c_X8_weights l D cy G X.2.2.2.1 S6 l0 _ _ hf) mf_X8_weights mv_X8_weights tw_2068 ⟨Nat.le_of_ble_eq_true rfl, Nat.le_of_ble_eq_true rfl⟩ hb1 hb2 (T := TX8) (N := 25) rfl rfl (Nat.le_of_ble_eq_true rfl) dX8_feudShare_29 ⟨Nat.le_of_ble_eq_true rfl, Nat.le_of_ble_eq_true rfl⟩) (fun v9 S8 hf H locs hH => ?_)
      refine lv_i2f hx hb dX8_feudShare_32 ?_
      refine lv_fdiv hx hb dX8_feudShare_33 hf.1 ?_
      have hf := hf.2
      refine lv_goto (tgt := 38) hx hb dX8_feudShare_34 (by decide) ?_
      exact q_retF X hH hr hlk hf (Nat.zero_le _) (Nat.zero_le _) dX8_feudShare_38
  refine lv_aload_n hx hb dX8_feudShare_0 rfl (lv_at hl 0 rfl) ?_
  refine lv_aload_n hx hb dX8_feudShare_1 rfl (lv_at hl 0 rfl) ?_
  obtain ⟨hb1, hb2, hf⟩ := hf
  refine q_backI0 X hH (q_runV [] [.ref a0] X hH hl (c_X8_bondMany l D cy G X.2.2.2.1 S a0 _ _ hf) mf_X8_bondMany mv_X8_bondMany tw_1769 ⟨Nat.le_of_ble_eq_true rfl, Nat.le_of_ble_eq_true rfl⟩ hb1 hb2 (T := TX8) (N := 25) rfl rfl (Nat.le_of_ble_eq_true rfl) dX8_feudShare_2 ⟨Nat.le_of_ble_eq_true rfl, Nat.le_of_ble_eq_true rfl⟩) (fun v2 S1 hf H locs hH => ?_)
  refine lv_if_le (tgt := 12) hx hb dX8_feudShare_5 (by decide) (fun c3 => ?_) (fun c3 => ?_)
  · have hf := (if_pos c3).mp hf
    refine lv_iconst (v := 0) hx hb dX8_feudShare_12 (by decide) ?_
    exact hJ13 S1 a0 0 a0 hf H locs ls hH hl
  · have hf := (if_neg c3).mp hf
    refine lv_iconst (v := 1) hx hb dX8_feudShare_8 (by decide) ?_
    refine lv_goto (tgt := 13) hx hb dX8_feudShare_9 (by decide) ?_
    exact hJ13 S1 a0 1 a0 hf H locs ls hH hl
-- X8_undo
def f_X8_undo_J13 (post : Int32 → PS → Prop) (S : PS) (l0 : Nat) (t0 : Int32) (t1 : Nat) : Prop :=
  isO S t1 12 (
  f_X8_isThere S t1 t0 fun v2 S1 => (
  if v2 = 0 then
    post 0 S1
  else
    gI S1 l0 12 2 fun v4 => (
    isO S1 l0 12 (
    f_X8_copies S1 l0 v4 0 fun S5 => (
    gI S5 l0 12 2 fun v7 => (
    pV S5 l0 12 2 (.int (v7 - 1)) fun S8 => (
    gI S8 l0 12 2 fun v9 => (
    post v9 S8))))))))
def f_X8_undo (S : PS) (a0 : Nat) (post : Int32 → PS → Prop) : Prop :=
  gI S a0 12 2 fun v1 => (
  if v1 ≤ 0 then
    f_X8_undo_J13 post S a0 0 a0
  else
    f_X8_undo_J13 post S a0 1 a0)
abbrev rm_X8_undo : Room := { frames := 1, cells := 0, slots := 0, locals := 23 }
set_option maxHeartbeats 4000000 in
set_option maxRecDepth 100000 in
theorem c_X8_undo (l : Launch) (D : va_G) (cy : Nat → ClassId) (G : p_GT) (hG : p_ok G) (S : PS) (a0 : Nat) (post : Int32 → PS → Prop) (sz : Nat) (hf : f_X8_undo S a0 post) : p_Mi l D cy G S sz yX8_undo (Cond.code yX8_undo cX8_undo 1 (some .int) :: wG) rm_X8_undo [.ref a0] 0 0 post := by
  refine q_start hG (Qc := fun A => va_Qi post (p_Post D cy A) A) mf_X8_undo (Nat.le_of_ble_eq_true rfl) (own := RX8) rfl ?_
  intro p e s m below meth c A X hr hlk hnm ls hl hH
  have hx := X.1.1
  have hb := X.1.2.1
  replace hl : lv_has ls 1 [(0, .ref a0)] := hl
  obtain ⟨H, hHe⟩ : ∃ H, H = s.heap := ⟨_, rfl⟩
  obtain ⟨locs, hlo⟩ : ∃ locs : List Loc, locs = [] := ⟨_, rfl⟩
  rw [← hHe, ← hlo] at hH
  show W p l e rm_X8_undo s m [.ref a0].toArray below meth c s.heap [] 0 0 _ _
  rw [← hHe, ← hlo]
  have hJ13 : ∀ (S : PS) (l0 : Nat) (t0 : Int32) (t1 : Nat), f_X8_undo_J13 post S l0 t0 t1 → ∀ (H : Heap) (locs : List Loc) (ls : Array Slot), p_H D cy S A s H locs → lv_has ls 1 [(0, .ref l0)] → W p l e rm_X8_undo s m [.ref a0].toArray below meth c H locs 0 0 (MQ below (va_Qi post (p_Post D cy A) A) [.ref a0].toArray s 0 0 A) (F0 m 13 ls [.int t0, .ref t1]) := by
    intro S l0 t0 t1 hf H locs ls hH hl
    obtain ⟨hb1, hb2, hf⟩ := hf
    refine q_backI0 X hH (q_runV [.int t0] [] X hH hl (c_X8_isThere l D cy G X.2.2.2.1 S t1 t0 _ _ hf) mf_X8_isThere mv_X8_isThere tw_1868 ⟨Nat.le_of_ble_eq_true rfl, Nat.le_of_ble_eq_true rfl⟩ hb1 hb2 (T := TX8) (N := 25) rfl rfl (Nat.le_of_ble_eq_true rfl) dX8_undo_13 ⟨Nat.le_of_ble_eq_true rfl, Nat.le_of_ble_eq_true rfl⟩) (fun v2 S1 hf H locs hH => ?_)
    refine lv_if_ne (tgt := 21) hx hb dX8_undo_16 (by decide) (fun c3 => ?_) (fun c3 => ?_)
    · have hf := (if_neg c3).mp hf
      refine lv_aload_n hx hb dX8_undo_21 rfl (lv_at hl 0 rfl) ?_
      refine lv_aload_n hx hb dX8_undo_22 rfl (lv_at hl 0 rfl) ?_
      refine q_getI (T := TX8) (N := 25) X hH hf iw_X8 rfl (by decide) tw_1611 (fun _ h => h) dX8_undo_23 (fun v4 hf => ?_)
      refine lv_iconst (v := 0) hx hb dX8_undo_26 (by decide) ?_
      obtain ⟨hb1, hb2, hf⟩ := hf
      refine q_backV0 X hH (q_runV [.int v4, .int 0] [] X hH hl (c_X8_copies l D cy G X.2.2.2.1 S1 l0 v4 0 _ _ hf) mf_X8_copies mv_X8_copies tw_1705 ⟨Nat.le_of_ble_eq_true rfl, Nat.le_of_ble_eq_true rfl⟩ hb1 hb2 (T := TX8) (N := 25) rfl rfl (Nat.le_of_ble_eq_true rfl) dX8_undo_27 ⟨Nat.le_of_ble_eq_true rfl, Nat.le_of_ble_eq_true rfl⟩) (fun S5 hf H locs hH => ?_)
      refine lv_aload_n hx hb dX8_undo_30 rfl (lv_at hl 0 rfl) ?_
      refine lv_dup hx hb dX8_undo_31 rfl ?_
      refine q_getI (T := TX8) (N := 25) X hH hf iw_X8 rfl (by decide) tw_1611 (fun _ h => h) dX8_undo_32 (fun v7 hf => ?_)
      refine lv_iconst (v := 1) hx hb dX8_undo_35 (by decide) ?_
      refine lv_isub hx hb dX8_undo_36 ?_
      refine q_putV (T := TX8) (N := 25) (ty0 := tyX8) (ty := tyX8 2) X hH hf iw_X8 tyX8_ok nmX8 rfl (by decide) tw_1611 (fun _ h => h) rfl (tyX8_ok 2 (by decide)) rfl rfl dX8_undo_37 (fun S8 hf H locs hH => ?_)
      refine lv_aload_n hx hb dX8_undo_40 rfl (lv_at hl 0 rfl) ?_
      refine q_getI (T := TX8) (N := 25) X hH hf iw_X8 rfl (by decide) tw_1611 (fun _ h => h) dX8_undo_41 (fun v9 hf => ?_)
      exact q_retI X hH hr hlk hf (Nat.zero_le _) (Nat.zero_le _) dX8_undo_44
    · have hf := (if_pos c3).mp hf
      refine lv_iconst (v := 0) hx hb dX8_undo_19 (by decide) ?_
      exact q_retI X hH hr hlk hf (Nat.zero_le _) (Nat.zero_le _) dX8_undo_20
  refine lv_aload_n hx hb dX8_undo_0 rfl (lv_at hl 0 rfl) ?_
  refine lv_aload_n hx hb dX8_undo_1 rfl (lv_at hl 0 rfl) ?_
  refine q_getI (T := TX8) (N := 25) X hH hf iw_X8 rfl (by decide) tw_1611 (fun _ h => h) dX8_undo_2 (fun v1 hf => ?_)
  refine lv_if_le (tgt := 12) hx hb dX8_undo_5 (by decide) (fun c2 => ?_) (fun c2 => ?_)
  · have hf := (if_pos c2).mp hf
    refine lv_iconst (v := 0) hx hb dX8_undo_12 (by decide) ?_
    exact hJ13 S a0 0 a0 hf H locs ls hH hl
  · have hf := (if_neg c2).mp hf
    refine lv_iconst (v := 1) hx hb dX8_undo_8 (by decide) ?_
    refine lv_goto (tgt := 13) hx hb dX8_undo_9 (by decide) ?_
    exact hJ13 S a0 1 a0 hf H locs ls hH hl
-- X8_save
def f_X8_save (S : PS) (a0 : Nat) (post : Int32 → PS → Prop) : Prop :=
  pV S a0 12 0 (.int 0) fun S1 => (
  pV S1 a0 12 3 (.int 1) fun S2 => (
  isO S2 a0 12 (
  f_X8_copies S2 a0 0 9 fun S3 => (
  gR S3 a0 12 1 fun v5 => (
  aI S3 v5 0 0 fun v6 => (
  post v6 S3))))))
abbrev rm_X8_save : Room := { frames := 1, cells := 0, slots := 0, locals := 23 }
set_option maxHeartbeats 4000000 in
set_option maxRecDepth 100000 in
theorem c_X8_save (l : Launch) (D : va_G) (cy : Nat → ClassId) (G : p_GT) (hG : p_ok G) (S : PS) (a0 : Nat) (post : Int32 → PS → Prop) (sz : Nat) (hf : f_X8_save S a0 post) : p_Mi l D cy G S sz yX8_save (Cond.code yX8_save cX8_save 1 (some .int) :: wG) rm_X8_save [.ref a0] 0 0 post := by
  refine q_start hG (Qc := fun A => va_Qi post (p_Post D cy A) A) mf_X8_save (Nat.le_of_ble_eq_true rfl) (own := RX8) rfl ?_
  intro p e s m below meth c A X hr hlk hnm ls hl hH
  have hx := X.1.1
  have hb := X.1.2.1
  replace hl : lv_has ls 1 [(0, .ref a0)] := hl
  obtain ⟨H, hHe⟩ : ∃ H, H = s.heap := ⟨_, rfl⟩
  obtain ⟨locs, hlo⟩ : ∃ locs : List Loc, locs = [] := ⟨_, rfl⟩
  rw [← hHe, ← hlo] at hH
  show W p l e rm_X8_save s m [.ref a0].toArray below meth c s.heap [] 0 0 _ _
  rw [← hHe, ← hlo]
  refine lv_aload_n hx hb dX8_save_0 rfl (lv_at hl 0 rfl) ?_
  refine lv_iconst (v := 0) hx hb dX8_save_1 (by decide) ?_
  refine q_putV (T := TX8) (N := 25) (ty0 := tyX8) (ty := tyX8 0) X hH hf iw_X8 tyX8_ok nmX8 rfl (by decide) tw_1609 (fun _ h => h) rfl (tyX8_ok 0 (by decide)) rfl rfl dX8_save_2 (fun S1 hf H locs hH => ?_)
  refine lv_aload_n hx hb dX8_save_5 rfl (lv_at hl 0 rfl) ?_
  refine lv_iconst (v := 1) hx hb dX8_save_6 (by decide) ?_
  refine q_putV (T := TX8) (N := 25) (ty0 := tyX8) (ty := tyX8 3) X hH hf iw_X8 tyX8_ok nmX8 rfl (by decide) tw_1612 (fun _ h => h) rfl (tyX8_ok 3 (by decide)) rfl rfl dX8_save_7 (fun S2 hf H locs hH => ?_)
  refine lv_aload_n hx hb dX8_save_10 rfl (lv_at hl 0 rfl) ?_
  refine lv_iconst (v := 0) hx hb dX8_save_11 (by decide) ?_
  refine lv_bipush (v := 9) hx hb dX8_save_12 (by decide) ?_
  obtain ⟨hb1, hb2, hf⟩ := hf
  refine q_backV0 X hH (q_runV [.int 0, .int 9] [] X hH hl (c_X8_copies l D cy G X.2.2.2.1 S2 a0 0 9 _ _ hf) mf_X8_copies mv_X8_copies tw_1705 ⟨Nat.le_of_ble_eq_true rfl, Nat.le_of_ble_eq_true rfl⟩ hb1 hb2 (T := TX8) (N := 25) rfl rfl (Nat.le_of_ble_eq_true rfl) dX8_save_14 ⟨Nat.le_of_ble_eq_true rfl, Nat.le_of_ble_eq_true rfl⟩) (fun S3 hf H locs hH => ?_)
  refine lv_aload_n hx hb dX8_save_17 rfl (lv_at hl 0 rfl) ?_
  refine q_getR (T := TX8) (N := 25) X hH hf iw_X8 rfl (by decide) tw_1610 (fun _ h => h) dX8_save_18 (fun v5 hf => ?_)
  refine lv_iconst (v := 0) hx hb dX8_save_21 (by decide) ?_
  refine q_iald X hH hf dX8_save_22 (fun v6 hf => ?_)
  exact q_retI X hH hr hlk hf (Nat.zero_le _) (Nat.zero_le _) dX8_save_23
