-- X8_restore
def f_X8_restore (S : PS) (a0 : Nat) (post : Int32 → PS → Prop) : Prop :=
  gI S a0 12 3 fun v1 => (
  isO S a0 12 (
  f_X8_isThere S a0 v1 fun v3 S2 => (
  if v3 = 0 then
    post 0 S2
  else
    isO S2 a0 12 (
    f_X8_copies S2 a0 9 0 fun S5 => (
    pV S5 a0 12 2 (.int 0) fun S7 => (
    gR S7 a0 12 1 fun v8 => (
    aI S7 v8 0 0 fun v9 => (
    post v9 S7))))))))
abbrev rm_X8_restore : Room := { frames := 1, cells := 0, slots := 0, locals := 23 }
set_option maxHeartbeats 4000000 in
set_option maxRecDepth 100000 in
theorem c_X8_restore (l : Launch) (D : va_G) (cy : Nat → ClassId) (G : p_GT) (hG : p_ok G) (S : PS) (a0 : Nat) (post : Int32 → PS → Prop) (sz : Nat) (hf : f_X8_restore S a0 post) : p_Mi l D cy G S sz yX8_restore (Cond.code yX8_restore cX8_restore 1 (some .int) :: wG) rm_X8_restore [.ref a0] 0 0 post := by
  refine q_start hG (Qc := fun A => va_Qi post (p_Post D cy A) A) mf_X8_restore (Nat.le_of_ble_eq_true rfl) (own := RX8) rfl ?_
  intro p e s m below meth c A X hr hlk hnm ls hl hH
  have hx := X.1.1
  have hb := X.1.2.1
  replace hl : lv_has ls 1 [(0, .ref a0)] := hl
  obtain ⟨H, hHe⟩ : ∃ H, H = s.heap := ⟨_, rfl⟩
  obtain ⟨locs, hlo⟩ : ∃ locs : List Loc, locs = [] := ⟨_, rfl⟩
  rw [← hHe, ← hlo] at hH
  show W p l e rm_X8_restore s m [.ref a0].toArray below meth c s.heap [] 0 0 _ _
  rw [← hHe, ← hlo]
  refine lv_aload_n hx hb dX8_restore_0 rfl (lv_at hl 0 rfl) ?_
  refine lv_aload_n hx hb dX8_restore_1 rfl (lv_at hl 0 rfl) ?_
  refine q_getI (T := TX8) (N := 25) X hH hf iw_X8 rfl (by decide) tw_1612 (fun _ h => h) dX8_restore_2 (fun v1 hf => ?_)
  obtain ⟨hb1, hb2, hf⟩ := hf
  refine q_backI0 X hH (q_runV [.int v1] [] X hH hl (c_X8_isThere l D cy G X.2.2.2.1 S a0 v1 _ _ hf) mf_X8_isThere mv_X8_isThere tw_1868 ⟨Nat.le_of_ble_eq_true rfl, Nat.le_of_ble_eq_true rfl⟩ hb1 hb2 (T := TX8) (N := 25) rfl rfl (Nat.le_of_ble_eq_true rfl) dX8_restore_5 ⟨Nat.le_of_ble_eq_true rfl, Nat.le_of_ble_eq_true rfl⟩) (fun v3 S2 hf H locs hH => ?_)
  refine lv_if_ne (tgt := 13) hx hb dX8_restore_8 (by decide) (fun c4 => ?_) (fun c4 => ?_)
  · have hf := (if_neg c4).mp hf
    refine lv_aload_n hx hb dX8_restore_13 rfl (lv_at hl 0 rfl) ?_
    refine lv_bipush (v := 9) hx hb dX8_restore_14 (by decide) ?_
    refine lv_iconst (v := 0) hx hb dX8_restore_16 (by decide) ?_
    obtain ⟨hb1, hb2, hf⟩ := hf
    refine q_backV0 X hH (q_runV [.int 9, .int 0] [] X hH hl (c_X8_copies l D cy G X.2.2.2.1 S2 a0 9 0 _ _ hf) mf_X8_copies mv_X8_copies tw_1705 ⟨Nat.le_of_ble_eq_true rfl, Nat.le_of_ble_eq_true rfl⟩ hb1 hb2 (T := TX8) (N := 25) rfl rfl (Nat.le_of_ble_eq_true rfl) dX8_restore_17 ⟨Nat.le_of_ble_eq_true rfl, Nat.le_of_ble_eq_true rfl⟩) (fun S5 hf H locs hH => ?_)
    refine lv_aload_n hx hb dX8_restore_20 rfl (lv_at hl 0 rfl) ?_
    refine lv_iconst (v := 0) hx hb dX8_restore_21 (by decide) ?_
    refine q_putV (T := TX8) (N := 25) (ty0 := tyX8) (ty := tyX8 2) X hH hf iw_X8 tyX8_ok nmX8 rfl (by decide) tw_1611 (fun _ h => h) rfl (tyX8_ok 2 (by decide)) rfl rfl dX8_restore_22 (fun S7 hf H locs hH => ?_)
    refine lv_aload_n hx hb dX8_restore_25 rfl (lv_at hl 0 rfl) ?_
    refine q_getR (T := TX8) (N := 25) X hH hf iw_X8 rfl (by decide) tw_1610 (fun _ h => h) dX8_restore_26 (fun v8 hf => ?_)
    refine lv_iconst (v := 0) hx hb dX8_restore_29 (by decide) ?_
    refine q_iald X hH hf dX8_restore_30 (fun v9 hf => ?_)
    exact q_retI X hH hr hlk hf (Nat.zero_le _) (Nat.zero_le _) dX8_restore_31
  · have hf := (if_pos c4).mp hf
    refine lv_iconst (v := 0) hx hb dX8_restore_11 (by decide) ?_
    exact q_retI X hH hr hlk hf (Nat.zero_le _) (Nat.zero_le _) dX8_restore_12
-- X8_partsNow
def f_X8_partsNow_J89 (post : Int32 → PS → Prop) (S : PS) (l0 : Nat) (l2 : Int32) : Prop :=
  isO S l0 12 (
  f_X8_feudOf S l0 l2 fun v2 S1 => (
  pV S1 l0 12 4 (.int v2) fun S3 => (
  nZ .boolean 1 (post 1 S3))))
def f_X8_partsNow_J82 (post : Int32 → PS → Prop) (g57 : PS → Nat → Int32 → Int32 → Int32 → Prop) (S : PS) (l0 : Nat) (l1 : Int32) (l2 : Int32) (l3 : Int32) (t0 : Int32) (t1 : Int32) (t2 : Nat) : Prop :=
  sI S t2 0 t1 t0 fun S1 => (
  g57 S1 l0 l1 l2 (l3 + 1))
def f_X8_partsNow_L57 (post : Int32 → PS → Prop) : Nat → PS → Nat → Int32 → Int32 → Int32 → Prop
  | 0, _, _, _, _, _ => False
  | n + 1, S, l0, l1, l2, l3 =>
  if l1 ≤ l3 then
    f_X8_partsNow_J89 post S l0 l2
  else
    gR S l0 12 1 fun v2 => (
    f_X8_holds S l2 l3 fun v4 S3 => (
    if v4 = 0 then
      f_X8_partsNow_J82 post (f_X8_partsNow_L57 post n) S3 l0 l1 l2 l3 0 ((4 : Int32) + l3) v2
    else
      f_X8_partsNow_J82 post (f_X8_partsNow_L57 post n) S3 l0 l1 l2 l3 1 ((4 : Int32) + l3) v2))
def f_X8_partsNow_J18 (post : Int32 → PS → Prop) (S : PS) (l0 : Nat) (l1 : Int32) (t0 : Int32) (t1 : Nat) : Prop :=
  isO S t1 12 (
  f_X8_refuses S t1 t0 7 l1 fun v2 S1 => (
  if v2 = 0 then
    isO S1 l0 12 (
    f_X8_laysPhases S1 l0 fun S4 => (
    gR S4 l0 12 9 fun v6 => (
    gI S4 l0 12 13 fun v7 => (
    gI S4 l0 12 13 fun v8 => (
    aI S4 v6 0 (((((9 : Int32) * v7) + l1) - v8) - 1) fun v9 => (
    f_X8_partsNow_L57 post 4096 S4 l0 l1 v9 0))))))
  else
    nZ .boolean 0 (post 0 S1)))
def f_X8_partsNow (S : PS) (a0 : Nat) (post : Int32 → PS → Prop) : Prop :=
  gR S a0 12 1 fun v1 => (
  aI S v1 0 0 fun v2 => (
  if 2 ≤ v2 then
    f_X8_partsNow_J18 post S a0 v2 0 a0
  else
    f_X8_partsNow_J18 post S a0 v2 1 a0))
abbrev rm_X8_partsNow : Room := { frames := 4, cells := 0, slots := 0, locals := 97 }
set_option maxHeartbeats 4000000 in
set_option maxRecDepth 100000 in
theorem c_X8_partsNow (l : Launch) (D : va_G) (cy : Nat → ClassId) (G : p_GT) (hG : p_ok G) (S : PS) (a0 : Nat) (post : Int32 → PS → Prop) (sz : Nat) (hf : f_X8_partsNow S a0 post) : p_Mi l D cy G S sz yX8_partsNow (Cond.code yX8_partsNow cX8_partsNow 4 (some .boolean) :: wG) rm_X8_partsNow [.ref a0] 0 0 post := by
  refine q_start hG (Qc := fun A => va_Qi post (p_Post D cy A) A) mf_X8_partsNow (Nat.le_of_ble_eq_true rfl) (own := RX8) rfl ?_
  intro p e s m below meth c A X hr hlk hnm ls hl hH
  have hx := X.1.1
  have hb := X.1.2.1
  replace hl : lv_has ls 4 [(0, .ref a0)] := hl
  obtain ⟨H, hHe⟩ : ∃ H, H = s.heap := ⟨_, rfl⟩
  obtain ⟨locs, hlo⟩ : ∃ locs : List Loc, locs = [] := ⟨_, rfl⟩
  rw [← hHe, ← hlo] at hH
  show W p l e rm_X8_partsNow s m [.ref a0].toArray below meth c s.heap [] 0 0 _ _
  rw [← hHe, ← hlo]
  have hJ18 : ∀ (S : PS) (l0 : Nat) (l1 : Int32) (t0 : Int32) (t1 : Nat), f_X8_partsNow_J18 post S l0 l1 t0 t1 → ∀ (H : Heap) (locs : List Loc) (ls : Array Slot), p_H D cy S A s H locs → lv_has ls 4 [(0, .ref l0), (1, .int l1)] → W p l e rm_X8_partsNow s m [.ref a0].toArray below meth c H locs 0 0 (MQ below (va_Qi post (p_Post D cy A) A) [.ref a0].toArray s 0 0 A) (F0 m 18 ls [.int t0, .ref t1]) := by
    intro S l0 l1 t0 t1 hf H locs ls hH hl
    have hL57 : ∀ (n57 : Nat) (S : PS) (l0 : Nat) (l1 : Int32) (l2 : Int32) (l3 : Int32), f_X8_partsNow_L57 post n57 S l0 l1 l2 l3 → ∀ (H : Heap) (locs : List Loc) (ls : Array Slot), p_H D cy S A s H locs → lv_has ls 4 [(0, .ref l0), (1, .int l1), (2, .int l2), (3, .int l3)] → W p l e rm_X8_partsNow s m [.ref a0].toArray below meth c H locs 0 0 (MQ below (va_Qi post (p_Post D cy A) A) [.ref a0].toArray s 0 0 A) (F0 m 57 ls []) := by
      intro n57
      induction n57 with
      | zero => intro S l0 l1 l2 l3 hf; exact hf.elim
      | succ n57 ih57 =>
        intro S l0 l1 l2 l3 hf H locs ls hH hl
        have hJ89 : ∀ (S : PS) (l0 : Nat) (l2 : Int32), f_X8_partsNow_J89 post S l0 l2 → ∀ (H : Heap) (locs : List Loc) (ls : Array Slot), p_H D cy S A s H locs → lv_has ls 4 [(0, .ref l0), (2, .int l2)] → W p l e rm_X8_partsNow s m [.ref a0].toArray below meth c H locs 0 0 (MQ below (va_Qi post (p_Post D cy A) A) [.ref a0].toArray s 0 0 A) (F0 m 89 ls []) := by
          intro S l0 l2 hf H locs ls hH hl
          refine lv_aload_n hx hb dX8_partsNow_89 rfl (lv_at hl 0 rfl) ?_
          refine lv_aload_n hx hb dX8_partsNow_90 rfl (lv_at hl 0 rfl) ?_
          refine lv_iload_n hx hb dX8_partsNow_91 rfl (lv_at hl 1 rfl) ?_
          obtain ⟨hb1, hb2, hf⟩ := hf
          refine q_backI0 X hH (q_runV [.int l2] [.ref l0] X hH hl (c_X8_feudOf l D cy G X.2.2.2.1 S l0 l2 _ _ hf) mf_X8_feudOf mv_X8_feudOf tw_1797 ⟨Nat.le_of_ble_eq_true rfl, Nat.le_of_ble_eq_true rfl⟩ hb1 hb2 (T := TX8) (N := 25) rfl rfl (Nat.le_of_ble_eq_true rfl) dX8_partsNow_92 ⟨Nat.le_of_ble_eq_true rfl, Nat.le_of_ble_eq_true rfl⟩) (fun v2 S1 hf H locs hH => ?_)
          refine q_putV (T := TX8) (N := 25) (ty0 := tyX8) (ty := tyX8 4) X hH hf iw_X8 tyX8_ok nmX8 rfl (by decide) tw_1613 (fun _ h => h) rfl (tyX8_ok 4 (by decide)) rfl rfl dX8_partsNow_95 (fun S3 hf H locs hH => ?_)
          refine lv_iconst (v := 1) hx hb dX8_partsNow_98 (by decide) ?_
          exact q_retZ X hH hr hlk hf (Nat.zero_le _) (Nat.zero_le _) dX8_partsNow_99
        have hJ82 : ∀ (S : PS) (l0 : Nat) (l1 : Int32) (l2 : Int32) (l3 : Int32) (t0 : Int32) (t1 : Int32) (t2 : Nat), f_X8_partsNow_J82 post (f_X8_partsNow_L57 post n57) S l0 l1 l2 l3 t0 t1 t2 → ∀ (H : Heap) (locs : List Loc) (ls : Array Slot), p_H D cy S A s H locs → lv_has ls 4 [(0, .ref l0), (1, .int l1), (2, .int l2), (3, .int l3)] → W p l e rm_X8_partsNow s m [.ref a0].toArray below meth c H locs 0 0 (MQ below (va_Qi post (p_Post D cy A) A) [.ref a0].toArray s 0 0 A) (F0 m 82 ls [.int t0, .int t1, .ref t2]) := by
          intro S l0 l1 l2 l3 t0 t1 t2 hf H locs ls hH hl
          refine q_iast X hH hf dX8_partsNow_82 (fun S1 hf H locs hH => ?_)
          refine lv_iinc (v := l3 + 1) (lv' := [(3, .int (l3 + 1)), (0, .ref l0), (1, .int l1), (2, .int l2)]) hx hb dX8_partsNow_83 hl (k := 3) rfl rfl (by decide) rfl (fun ls hl => ?_)
          refine lv_goto (tgt := 57) hx hb dX8_partsNow_86 (by decide) ?_
          exact ih57 S1 l0 l1 l2 (l3 + 1) hf H locs ls hH (lv_sub hl [1, 2, 3, 0] rfl)
        refine lv_iload_n hx hb dX8_partsNow_57 rfl (lv_at hl 3 rfl) ?_
        refine lv_iload_n hx hb dX8_partsNow_58 rfl (lv_at hl 1 rfl) ?_
        refine lv_icmp_ge (tgt := 89) hx hb dX8_partsNow_59 (by decide) (fun c1 => ?_) (fun c1 => ?_)
        · have hf := (if_pos c1).mp hf
          exact hJ89 S l0 l2 hf H locs ls hH (lv_sub hl [0, 2] rfl)
        · have hf := (if_neg c1).mp hf
          refine lv_aload_n hx hb dX8_partsNow_62 rfl (lv_at hl 0 rfl) ?_
          refine q_getR (T := TX8) (N := 25) X hH hf iw_X8 rfl (by decide) tw_1610 (fun _ h => h) dX8_partsNow_63 (fun v2 hf => ?_)
          refine lv_iconst (v := 4) hx hb dX8_partsNow_66 (by decide) ?_
          refine lv_iload_n hx hb dX8_partsNow_67 rfl (lv_at hl 3 rfl) ?_
          refine lv_iadd hx hb dX8_partsNow_68 ?_
          refine lv_iload_n hx hb dX8_partsNow_69 rfl (lv_at hl 2 rfl) ?_
          refine lv_iload_n hx hb dX8_partsNow_70 rfl (lv_at hl 3 rfl) ?_
          refine q_backI0 X hH (q_runS [.int l2, .int l3] [.int ((4 : Int32) + l3), .ref v2] X hH hl (c_X8_holds l D cy G X.2.2.2.1 S l2 l3 _ _ hf) mf_X8_holds tw_1810 tw_1809 ⟨Nat.le_of_ble_eq_true rfl, Nat.le_of_ble_eq_true rfl⟩ rfl (Nat.le_of_ble_eq_true rfl) dX8_partsNow_71 ⟨Nat.le_of_ble_eq_true rfl, Nat.le_of_ble_eq_true rfl⟩) (fun v4 S3 hf H locs hH => ?_)
          refine lv_if_eq (tgt := 81) hx hb dX8_partsNow_74 (by decide) (fun c5 => ?_) (fun c5 => ?_)
          · have hf := (if_pos c5).mp hf
            refine lv_iconst (v := 0) hx hb dX8_partsNow_81 (by decide) ?_
            exact hJ82 S3 l0 l1 l2 l3 0 ((4 : Int32) + l3) v2 hf H locs ls hH hl
          · have hf := (if_neg c5).mp hf
            refine lv_iconst (v := 1) hx hb dX8_partsNow_77 (by decide) ?_
            refine lv_goto (tgt := 82) hx hb dX8_partsNow_78 (by decide) ?_
            exact hJ82 S3 l0 l1 l2 l3 1 ((4 : Int32) + l3) v2 hf H locs ls hH hl
    refine lv_bipush (v := 7) hx hb dX8_partsNow_18 (by decide) ?_
    refine lv_iload_n hx hb dX8_partsNow_20 rfl (lv_at hl 1 rfl) ?_
    obtain ⟨hb1, hb2, hf⟩ := hf
    refine q_backI0 X hH (q_runV [.int t0, .int 7, .int l1] [] X hH hl (c_X8_refuses l D cy G X.2.2.2.1 S t1 t0 7 l1 _ _ hf) mf_X8_refuses mv_X8_refuses tw_1713 ⟨Nat.le_of_ble_eq_true rfl, Nat.le_of_ble_eq_true rfl⟩ hb1 hb2 (T := TX8) (N := 25) rfl rfl (Nat.le_of_ble_eq_true rfl) dX8_partsNow_21 ⟨Nat.le_of_ble_eq_true rfl, Nat.le_of_ble_eq_true rfl⟩) (fun v2 S1 hf H locs hH => ?_)
    refine lv_if_eq (tgt := 29) hx hb dX8_partsNow_24 (by decide) (fun c3 => ?_) (fun c3 => ?_)
    · have hf := (if_pos c3).mp hf
      refine lv_aload_n hx hb dX8_partsNow_29 rfl (lv_at hl 0 rfl) ?_
      obtain ⟨hb1, hb2, hf⟩ := hf
      refine q_backV0 X hH (q_runV [] [] X hH hl (c_X8_laysPhases l D cy G X.2.2.2.1 S1 l0 _ _ hf) mf_X8_laysPhases mv_X8_laysPhases tw_1820 ⟨Nat.le_of_ble_eq_true rfl, Nat.le_of_ble_eq_true rfl⟩ hb1 hb2 (T := TX8) (N := 25) rfl rfl (Nat.le_of_ble_eq_true rfl) dX8_partsNow_30 ⟨Nat.le_of_ble_eq_true rfl, Nat.le_of_ble_eq_true rfl⟩) (fun S4 hf H locs hH => ?_)
      refine lv_aload_n hx hb dX8_partsNow_33 rfl (lv_at hl 0 rfl) ?_
      refine q_getR (T := TX8) (N := 25) X hH hf iw_X8 rfl (by decide) tw_1618 (fun _ h => h) dX8_partsNow_34 (fun v6 hf => ?_)
      refine lv_bipush (v := 9) hx hb dX8_partsNow_37 (by decide) ?_
      refine lv_aload_n hx hb dX8_partsNow_39 rfl (lv_at hl 0 rfl) ?_
      refine q_getI (T := TX8) (N := 25) X hH hf iw_X8 rfl (by decide) tw_1622 (fun _ h => h) dX8_partsNow_40 (fun v7 hf => ?_)
      refine lv_imul hx hb dX8_partsNow_43 ?_
      refine lv_iload_n hx hb dX8_partsNow_44 rfl (lv_at hl 1 rfl) ?_
      refine lv_iadd hx hb dX8_partsNow_45 ?_
      refine lv_aload_n hx hb dX8_partsNow_46 rfl (lv_at hl 0 rfl) ?_
      refine q_getI (T := TX8) (N := 25) X hH hf iw_X8 rfl (by decide) tw_1622 (fun _ h => h) dX8_partsNow_47 (fun v8 hf => ?_)
      refine lv_isub hx hb dX8_partsNow_50 ?_
      refine lv_iconst (v := 1) hx hb dX8_partsNow_51 (by decide) ?_
      refine lv_isub hx hb dX8_partsNow_52 ?_
      refine q_iald X hH hf dX8_partsNow_53 (fun v9 hf => ?_)
      refine lv_istore_n (lv' := [(2, .int v9), (0, .ref l0), (1, .int l1)]) hx hb dX8_partsNow_54 rfl hl (by decide) rfl (fun ls hl => ?_)
      refine lv_iconst (v := 0) hx hb dX8_partsNow_55 (by decide) ?_
      refine lv_istore_n (lv' := [(3, .int 0), (2, .int v9), (0, .ref l0), (1, .int l1)]) hx hb dX8_partsNow_56 rfl hl (by decide) rfl (fun ls hl => ?_)
      exact hL57 4096 S4 l0 l1 v9 0 hf H locs ls hH (lv_sub hl [2, 3, 1, 0] rfl)
    · have hf := (if_neg c3).mp hf
      refine lv_iconst (v := 0) hx hb dX8_partsNow_27 (by decide) ?_
      exact q_retZ X hH hr hlk hf (Nat.zero_le _) (Nat.zero_le _) dX8_partsNow_28
  refine lv_aload_n hx hb dX8_partsNow_0 rfl (lv_at hl 0 rfl) ?_
  refine q_getR (T := TX8) (N := 25) X hH hf iw_X8 rfl (by decide) tw_1610 (fun _ h => h) dX8_partsNow_1 (fun v1 hf => ?_)
  refine lv_iconst (v := 0) hx hb dX8_partsNow_4 (by decide) ?_
  refine q_iald X hH hf dX8_partsNow_5 (fun v2 hf => ?_)
  refine lv_istore_n (lv' := [(1, .int v2), (0, .ref a0)]) hx hb dX8_partsNow_6 rfl hl (by decide) rfl (fun ls hl => ?_)
  refine lv_aload_n hx hb dX8_partsNow_7 rfl (lv_at hl 1 rfl) ?_
  refine lv_iload_n hx hb dX8_partsNow_8 rfl (lv_at hl 0 rfl) ?_
  refine lv_iconst (v := 2) hx hb dX8_partsNow_9 (by decide) ?_
  refine lv_icmp_ge (tgt := 17) hx hb dX8_partsNow_10 (by decide) (fun c3 => ?_) (fun c3 => ?_)
  · have hf := (if_pos c3).mp hf
    refine lv_iconst (v := 0) hx hb dX8_partsNow_17 (by decide) ?_
    exact hJ18 S a0 v2 0 a0 hf H locs ls hH (lv_sub hl [1, 0] rfl)
  · have hf := (if_neg c3).mp hf
    refine lv_iconst (v := 1) hx hb dX8_partsNow_13 (by decide) ?_
    refine lv_goto (tgt := 18) hx hb dX8_partsNow_14 (by decide) ?_
    exact hJ18 S a0 v2 1 a0 hf H locs ls hH (lv_sub hl [1, 0] rfl)
-- X8_part
def f_X8_part (S : PS) (a0 : Nat) (post : Int32 → PS → Prop) : Prop :=
  isO S a0 12 (
  f_X8_begins S a0 fun S1 => (
  isO S1 a0 12 (
  f_X8_partsNow S1 a0 fun v4 S3 => (
  isO S3 a0 12 (
  f_X8_ends S3 a0 v4 1 fun v6 S5 => (
  post v6 S5))))))
abbrev rm_X8_part : Room := { frames := 5, cells := 0, slots := 0, locals := 120 }
set_option maxHeartbeats 4000000 in
set_option maxRecDepth 100000 in
theorem c_X8_part (l : Launch) (D : va_G) (cy : Nat → ClassId) (G : p_GT) (hG : p_ok G) (S : PS) (a0 : Nat) (post : Int32 → PS → Prop) (sz : Nat) (hf : f_X8_part S a0 post) : p_Mi l D cy G S sz yX8_part (Cond.code yX8_part cX8_part 1 (some .int) :: wG) rm_X8_part [.ref a0] 0 0 post := by
  refine q_start hG (Qc := fun A => va_Qi post (p_Post D cy A) A) mf_X8_part (Nat.le_of_ble_eq_true rfl) (own := RX8) rfl ?_
  intro p e s m below meth c A X hr hlk hnm ls hl hH
  have hx := X.1.1
  have hb := X.1.2.1
  replace hl : lv_has ls 1 [(0, .ref a0)] := hl
  obtain ⟨H, hHe⟩ : ∃ H, H = s.heap := ⟨_, rfl⟩
  obtain ⟨locs, hlo⟩ : ∃ locs : List Loc, locs = [] := ⟨_, rfl⟩
  rw [← hHe, ← hlo] at hH
  show W p l e rm_X8_part s m [.ref a0].toArray below meth c s.heap [] 0 0 _ _
  rw [← hHe, ← hlo]
  refine lv_aload_n hx hb dX8_part_0 rfl (lv_at hl 0 rfl) ?_
  obtain ⟨hb1, hb2, hf⟩ := hf
  refine q_backV0 X hH (q_runV [] [] X hH hl (c_X8_begins l D cy G X.2.2.2.1 S a0 _ _ hf) mf_X8_begins mv_X8_begins tw_1701 ⟨Nat.le_of_ble_eq_true rfl, Nat.le_of_ble_eq_true rfl⟩ hb1 hb2 (T := TX8) (N := 25) rfl rfl (Nat.le_of_ble_eq_true rfl) dX8_part_1 ⟨Nat.le_of_ble_eq_true rfl, Nat.le_of_ble_eq_true rfl⟩) (fun S1 hf H locs hH => ?_)
  refine lv_aload_n hx hb dX8_part_4 rfl (lv_at hl 0 rfl) ?_
  refine lv_aload_n hx hb dX8_part_5 rfl (lv_at hl 0 rfl) ?_
  obtain ⟨hb1, hb2, hf⟩ := hf
  refine q_backI0 X hH (q_runV [] [.ref a0] X hH hl (c_X8_partsNow l D cy G X.2.2.2.1 S1 a0 _ _ hf) mf_X8_partsNow mv_X8_partsNow tw_1816 ⟨Nat.le_of_ble_eq_true rfl, Nat.le_of_ble_eq_true rfl⟩ hb1 hb2 (T := TX8) (N := 25) rfl rfl (Nat.le_of_ble_eq_true rfl) dX8_part_6 ⟨Nat.le_of_ble_eq_true rfl, Nat.le_of_ble_eq_true rfl⟩) (fun v4 S3 hf H locs hH => ?_)
  refine lv_iconst (v := 1) hx hb dX8_part_9 (by decide) ?_
  obtain ⟨hb1, hb2, hf⟩ := hf
  refine q_backI0 X hH (q_runV [.int v4, .int 1] [] X hH hl (c_X8_ends l D cy G X.2.2.2.1 S3 a0 v4 1 _ _ hf) mf_X8_ends mv_X8_ends tw_1721 ⟨Nat.le_of_ble_eq_true rfl, Nat.le_of_ble_eq_true rfl⟩ hb1 hb2 (T := TX8) (N := 25) rfl rfl (Nat.le_of_ble_eq_true rfl) dX8_part_10 ⟨Nat.le_of_ble_eq_true rfl, Nat.le_of_ble_eq_true rfl⟩) (fun v6 S5 hf H locs hH => ?_)
  exact q_retI X hH hr hlk hf (Nat.zero_le _) (Nat.zero_le _) dX8_part_13
-- X8_does
def f_X8_does_J159 (post : Int32 → PS → Prop) (S : PS) (l0 : Nat) : Prop :=
  isO S l0 12 (
  f_X8_partsNow S l0 fun v2 S1 => (
  nZ .boolean v2 (post v2 S1)))
def f_X8_does (S : PS) (a0 : Nat) (a1 : Int32) (post : Int32 → PS → Prop) : Prop :=
  gR S a0 12 21 fun v1 => (
  aI S v1 0 (a1 + 1) fun v2 => (
  gR S a0 12 21 fun v3 => (
  aI S v3 0 (a1 + 2) fun v4 => (
  gR S a0 12 21 fun v5 => (
  aI S v5 0 a1 fun v6 => (
  if v6 = 98 then
    gR S a0 12 21 fun v8 => (
    aI S v8 0 (a1 + 3) fun v9 => (
    isO S a0 12 (
    f_X8_bonds S a0 v2 v4 v9 fun v11 S10 => (
    nZ .boolean v11 (post v11 S10)))))
  else
  if v6 = 99 then
    f_X8_does_J159 post S a0
  else
  if v6 = 100 then
    f_X8_does_J159 post S a0
  else
  if v6 = 101 then
    f_X8_does_J159 post S a0
  else
  if v6 = 102 then
    f_X8_does_J159 post S a0
  else
  if v6 = 103 then
    isO S a0 12 (
    f_X8_leaves S a0 v2 fun v18 S17 => (
    nZ .boolean v18 (post v18 S17)))
  else
  if v6 = 104 then
    isO S a0 12 (
    f_X8_comes S a0 fun v21 S20 => (
    nZ .boolean v21 (post v21 S20)))
  else
  if v6 = 105 then
    f_X8_does_J159 post S a0
  else
  if v6 = 106 then
    f_X8_does_J159 post S a0
  else
  if v6 = 107 then
    f_X8_does_J159 post S a0
  else
  if v6 = 108 then
    isO S a0 12 (
    f_X8_loosens S a0 v2 v4 fun v27 S26 => (
    nZ .boolean v27 (post v27 S26)))
  else
  if v6 = 109 then
    isO S a0 12 (
    f_X8_marries S a0 v2 v4 fun v30 S29 => (
    nZ .boolean v30 (post v30 S29)))
  else
  if v6 = 110 then
    f_X8_does_J159 post S a0
  else
  if v6 = 111 then
    f_X8_does_J159 post S a0
  else
  if v6 = 112 then
    f_X8_does_J159 post S a0
  else
  if v6 = 113 then
    f_X8_does_J159 post S a0
  else
  if v6 = 114 then
    f_X8_does_J159 post S a0
  else
  if v6 = 115 then
    isO S a0 12 (
    f_X8_stands S a0 v2 v4 fun v38 S37 => (
    nZ .boolean v38 (post v38 S37)))
  else
    f_X8_does_J159 post S a0))))))
abbrev rm_X8_does : Room := { frames := 5, cells := 0, slots := 0, locals := 120 }
set_option maxHeartbeats 4000000 in
set_option maxRecDepth 100000 in
theorem c_X8_does (l : Launch) (D : va_G) (cy : Nat → ClassId) (G : p_GT) (hG : p_ok G) (S : PS) (a0 : Nat) (a1 : Int32) (post : Int32 → PS → Prop) (sz : Nat) (hf : f_X8_does S a0 a1 post) : p_Mi l D cy G S sz yX8_does (Cond.code yX8_does cX8_does 4 (some .boolean) :: wG) rm_X8_does [.ref a0, .int a1] 0 0 post := by
  refine q_start hG (Qc := fun A => va_Qi post (p_Post D cy A) A) mf_X8_does (Nat.le_of_ble_eq_true rfl) (own := RX8) rfl ?_
  intro p e s m below meth c A X hr hlk hnm ls hl hH
  have hx := X.1.1
  have hb := X.1.2.1
  replace hl : lv_has ls 4 [(0, .ref a0), (1, .int a1)] := hl
  obtain ⟨H, hHe⟩ : ∃ H, H = s.heap := ⟨_, rfl⟩
  obtain ⟨locs, hlo⟩ : ∃ locs : List Loc, locs = [] := ⟨_, rfl⟩
  rw [← hHe, ← hlo] at hH
  show W p l e rm_X8_does s m [.ref a0, .int a1].toArray below meth c s.heap [] 0 0 _ _
  rw [← hHe, ← hlo]
  have hJ159 : ∀ (S : PS) (l0 : Nat), f_X8_does_J159 post S l0 → ∀ (H : Heap) (locs : List Loc) (ls : Array Slot), p_H D cy S A s H locs → lv_has ls 4 [(0, .ref l0)] → W p l e rm_X8_does s m [.ref a0, .int a1].toArray below meth c H locs 0 0 (MQ below (va_Qi post (p_Post D cy A) A) [.ref a0, .int a1].toArray s 0 0 A) (F0 m 159 ls []) := by
    intro S l0 hf H locs ls hH hl
    refine lv_aload_n hx hb dX8_does_159 rfl (lv_at hl 0 rfl) ?_
    obtain ⟨hb1, hb2, hf⟩ := hf
    refine q_backI0 X hH (q_runV [] [] X hH hl (c_X8_partsNow l D cy G X.2.2.2.1 S l0 _ _ hf) mf_X8_partsNow mv_X8_partsNow tw_1816 ⟨Nat.le_of_ble_eq_true rfl, Nat.le_of_ble_eq_true rfl⟩ hb1 hb2 (T := TX8) (N := 25) rfl rfl (Nat.le_of_ble_eq_true rfl) dX8_does_160 ⟨Nat.le_of_ble_eq_true rfl, Nat.le_of_ble_eq_true rfl⟩) (fun v2 S1 hf H locs hH => ?_)
    exact q_retZ X hH hr hlk hf (Nat.zero_le _) (Nat.zero_le _) dX8_does_163
  refine lv_aload_n hx hb dX8_does_0 rfl (lv_at hl 0 rfl) ?_
  refine q_getR (T := TX8) (N := 25) X hH hf iw_X8 rfl (by decide) tw_1630 (fun _ h => h) dX8_does_1 (fun v1 hf => ?_)
  refine lv_iload_n hx hb dX8_does_4 rfl (lv_at hl 1 rfl) ?_
  refine lv_iconst (v := 1) hx hb dX8_does_5 (by decide) ?_
  refine lv_iadd hx hb dX8_does_6 ?_
  refine q_iald X hH hf dX8_does_7 (fun v2 hf => ?_)
  refine lv_istore_n (lv' := [(2, .int v2), (0, .ref a0), (1, .int a1)]) hx hb dX8_does_8 rfl hl (by decide) rfl (fun ls hl => ?_)
  refine lv_aload_n hx hb dX8_does_9 rfl (lv_at hl 1 rfl) ?_
  refine q_getR (T := TX8) (N := 25) X hH hf iw_X8 rfl (by decide) tw_1630 (fun _ h => h) dX8_does_10 (fun v3 hf => ?_)
  refine lv_iload_n hx hb dX8_does_13 rfl (lv_at hl 2 rfl) ?_
  refine lv_iconst (v := 2) hx hb dX8_does_14 (by decide) ?_
  refine lv_iadd hx hb dX8_does_15 ?_
  refine q_iald X hH hf dX8_does_16 (fun v4 hf => ?_)
  refine lv_istore_n (lv' := [(3, .int v4), (2, .int v2), (0, .ref a0), (1, .int a1)]) hx hb dX8_does_17 rfl hl (by decide) rfl (fun ls hl => ?_)
  refine lv_aload_n hx hb dX8_does_18 rfl (lv_at hl 2 rfl) ?_
  refine q_getR (T := TX8) (N := 25) X hH hf iw_X8 rfl (by decide) tw_1630 (fun _ h => h) dX8_does_19 (fun v5 hf => ?_)
  refine lv_iload_n hx hb dX8_does_22 rfl (lv_at hl 3 rfl) ?_
  refine q_iald X hH hf dX8_does_23 (fun v6 hf => ?_)
  by_cases c7 : v6 = 98
  · have hf := (if_pos c7).mp hf
    refine lv_tableIn (off := 99) (tgt := 123) hx hb dX8_does_24 (by rw [c7]; decide) (by rw [c7]; decide) (by rw [c7]; rfl) (by decide) ?_
    refine lv_aload_n hx hb dX8_does_123 rfl (lv_at hl 2 rfl) ?_
    refine lv_iload_n hx hb dX8_does_124 rfl (lv_at hl 1 rfl) ?_
    refine lv_iload_n hx hb dX8_does_125 rfl (lv_at hl 0 rfl) ?_
    refine lv_aload_n hx hb dX8_does_126 rfl (lv_at hl 2 rfl) ?_
    refine q_getR (T := TX8) (N := 25) X hH hf iw_X8 rfl (by decide) tw_1630 (fun _ h => h) dX8_does_127 (fun v8 hf => ?_)
    refine lv_iload_n hx hb dX8_does_130 rfl (lv_at hl 3 rfl) ?_
    refine lv_iconst (v := 3) hx hb dX8_does_131 (by decide) ?_
    refine lv_iadd hx hb dX8_does_132 ?_
    refine q_iald X hH hf dX8_does_133 (fun v9 hf => ?_)
    obtain ⟨hb1, hb2, hf⟩ := hf
    refine q_backI0 X hH (q_runV [.int v2, .int v4, .int v9] [] X hH hl (c_X8_bonds l D cy G X.2.2.2.1 S a0 v2 v4 v9 _ _ hf) mf_X8_bonds mv_X8_bonds tw_1753 ⟨Nat.le_of_ble_eq_true rfl, Nat.le_of_ble_eq_true rfl⟩ hb1 hb2 (T := TX8) (N := 25) rfl rfl (Nat.le_of_ble_eq_true rfl) dX8_does_134 ⟨Nat.le_of_ble_eq_true rfl, Nat.le_of_ble_eq_true rfl⟩) (fun v11 S10 hf H locs hH => ?_)
    exact q_retZ X hH hr hlk hf (Nat.zero_le _) (Nat.zero_le _) dX8_does_137
  · have hf := (if_neg c7).mp hf
    by_cases c12 : v6 = 99
    · have hf := (if_pos c12).mp hf
      refine lv_tableIn (off := 135) (tgt := 159) hx hb dX8_does_24 (by rw [c12]; decide) (by rw [c12]; decide) (by rw [c12]; rfl) (by decide) ?_
      exact hJ159 S a0 hf H locs ls hH (lv_sub hl [2] rfl)
    · have hf := (if_neg c12).mp hf
      by_cases c13 : v6 = 100
      · have hf := (if_pos c13).mp hf
        refine lv_tableIn (off := 135) (tgt := 159) hx hb dX8_does_24 (by rw [c13]; decide) (by rw [c13]; decide) (by rw [c13]; rfl) (by decide) ?_
        exact hJ159 S a0 hf H locs ls hH (lv_sub hl [2] rfl)
      · have hf := (if_neg c13).mp hf
        by_cases c14 : v6 = 101
        · have hf := (if_pos c14).mp hf
          refine lv_tableIn (off := 135) (tgt := 159) hx hb dX8_does_24 (by rw [c14]; decide) (by rw [c14]; decide) (by rw [c14]; rfl) (by decide) ?_
          exact hJ159 S a0 hf H locs ls hH (lv_sub hl [2] rfl)
        · have hf := (if_neg c14).mp hf
          by_cases c15 : v6 = 102
          · have hf := (if_pos c15).mp hf
            refine lv_tableIn (off := 135) (tgt := 159) hx hb dX8_does_24 (by rw [c15]; decide) (by rw [c15]; decide) (by rw [c15]; rfl) (by decide) ?_
            exact hJ159 S a0 hf H locs ls hH (lv_sub hl [2] rfl)
          · have hf := (if_neg c15).mp hf
            by_cases c16 : v6 = 103
            · have hf := (if_pos c16).mp hf
              refine lv_tableIn (off := 93) (tgt := 117) hx hb dX8_does_24 (by rw [c16]; decide) (by rw [c16]; decide) (by rw [c16]; rfl) (by decide) ?_
              refine lv_aload_n hx hb dX8_does_117 rfl (lv_at hl 2 rfl) ?_
              refine lv_iload_n hx hb dX8_does_118 rfl (lv_at hl 1 rfl) ?_
              obtain ⟨hb1, hb2, hf⟩ := hf
              refine q_backI0 X hH (q_runV [.int v2] [] X hH hl (c_X8_leaves l D cy G X.2.2.2.1 S a0 v2 _ _ hf) mf_X8_leaves mv_X8_leaves tw_1729 ⟨Nat.le_of_ble_eq_true rfl, Nat.le_of_ble_eq_true rfl⟩ hb1 hb2 (T := TX8) (N := 25) rfl rfl (Nat.le_of_ble_eq_true rfl) dX8_does_119 ⟨Nat.le_of_ble_eq_true rfl, Nat.le_of_ble_eq_true rfl⟩) (fun v18 S17 hf H locs hH => ?_)
              exact q_retZ X hH hr hlk hf (Nat.zero_le _) (Nat.zero_le _) dX8_does_122
            · have hf := (if_neg c16).mp hf
              by_cases c19 : v6 = 104
              · have hf := (if_pos c19).mp hf
                refine lv_tableIn (off := 88) (tgt := 112) hx hb dX8_does_24 (by rw [c19]; decide) (by rw [c19]; decide) (by rw [c19]; rfl) (by decide) ?_
                refine lv_aload_n hx hb dX8_does_112 rfl (lv_at hl 2 rfl) ?_
                obtain ⟨hb1, hb2, hf⟩ := hf
                refine q_backI0 X hH (q_runV [] [] X hH hl (c_X8_comes l D cy G X.2.2.2.1 S a0 _ _ hf) mf_X8_comes mv_X8_comes tw_1709 ⟨Nat.le_of_ble_eq_true rfl, Nat.le_of_ble_eq_true rfl⟩ hb1 hb2 (T := TX8) (N := 25) rfl rfl (Nat.le_of_ble_eq_true rfl) dX8_does_113 ⟨Nat.le_of_ble_eq_true rfl, Nat.le_of_ble_eq_true rfl⟩) (fun v21 S20 hf H locs hH => ?_)
                exact q_retZ X hH hr hlk hf (Nat.zero_le _) (Nat.zero_le _) dX8_does_116
              · have hf := (if_neg c19).mp hf
                by_cases c22 : v6 = 105
                · have hf := (if_pos c22).mp hf
                  refine lv_tableIn (off := 135) (tgt := 159) hx hb dX8_does_24 (by rw [c22]; decide) (by rw [c22]; decide) (by rw [c22]; rfl) (by decide) ?_
                  exact hJ159 S a0 hf H locs ls hH (lv_sub hl [2] rfl)
                · have hf := (if_neg c22).mp hf
                  by_cases c23 : v6 = 106
                  · have hf := (if_pos c23).mp hf
                    refine lv_tableIn (off := 135) (tgt := 159) hx hb dX8_does_24 (by rw [c23]; decide) (by rw [c23]; decide) (by rw [c23]; rfl) (by decide) ?_
                    exact hJ159 S a0 hf H locs ls hH (lv_sub hl [2] rfl)
                  · have hf := (if_neg c23).mp hf
                    by_cases c24 : v6 = 107
                    · have hf := (if_pos c24).mp hf
                      refine lv_tableIn (off := 135) (tgt := 159) hx hb dX8_does_24 (by rw [c24]; decide) (by rw [c24]; decide) (by rw [c24]; rfl) (by decide) ?_
                      exact hJ159 S a0 hf H locs ls hH (lv_sub hl [2] rfl)
                    · have hf := (if_neg c24).mp hf
                      by_cases c25 : v6 = 108
                      · have hf := (if_pos c25).mp hf
                        refine lv_tableIn (off := 114) (tgt := 138) hx hb dX8_does_24 (by rw [c25]; decide) (by rw [c25]; decide) (by rw [c25]; rfl) (by decide) ?_
                        refine lv_aload_n hx hb dX8_does_138 rfl (lv_at hl 2 rfl) ?_
                        refine lv_iload_n hx hb dX8_does_139 rfl (lv_at hl 1 rfl) ?_
                        refine lv_iload_n hx hb dX8_does_140 rfl (lv_at hl 0 rfl) ?_
                        obtain ⟨hb1, hb2, hf⟩ := hf
                        refine q_backI0 X hH (q_runV [.int v2, .int v4] [] X hH hl (c_X8_loosens l D cy G X.2.2.2.1 S a0 v2 v4 _ _ hf) mf_X8_loosens mv_X8_loosens tw_1765 ⟨Nat.le_of_ble_eq_true rfl, Nat.le_of_ble_eq_true rfl⟩ hb1 hb2 (T := TX8) (N := 25) rfl rfl (Nat.le_of_ble_eq_true rfl) dX8_does_141 ⟨Nat.le_of_ble_eq_true rfl, Nat.le_of_ble_eq_true rfl⟩) (fun v27 S26 hf H locs hH => ?_)
                        exact q_retZ X hH hr hlk hf (Nat.zero_le _) (Nat.zero_le _) dX8_does_144
                      · have hf := (if_neg c25).mp hf
                        by_cases c28 : v6 = 109
                        · have hf := (if_pos c28).mp hf
                          refine lv_tableIn (off := 121) (tgt := 145) hx hb dX8_does_24 (by rw [c28]; decide) (by rw [c28]; decide) (by rw [c28]; rfl) (by decide) ?_
                          refine lv_aload_n hx hb dX8_does_145 rfl (lv_at hl 2 rfl) ?_
                          refine lv_iload_n hx hb dX8_does_146 rfl (lv_at hl 1 rfl) ?_
                          refine lv_iload_n hx hb dX8_does_147 rfl (lv_at hl 0 rfl) ?_
                          obtain ⟨hb1, hb2, hf⟩ := hf
                          refine q_backI0 X hH (q_runV [.int v2, .int v4] [] X hH hl (c_X8_marries l D cy G X.2.2.2.1 S a0 v2 v4 _ _ hf) mf_X8_marries mv_X8_marries tw_1781 ⟨Nat.le_of_ble_eq_true rfl, Nat.le_of_ble_eq_true rfl⟩ hb1 hb2 (T := TX8) (N := 25) rfl rfl (Nat.le_of_ble_eq_true rfl) dX8_does_148 ⟨Nat.le_of_ble_eq_true rfl, Nat.le_of_ble_eq_true rfl⟩) (fun v30 S29 hf H locs hH => ?_)
                          exact q_retZ X hH hr hlk hf (Nat.zero_le _) (Nat.zero_le _) dX8_does_151
                        · have hf := (if_neg c28).mp hf
                          by_cases c31 : v6 = 110
                          · have hf := (if_pos c31).mp hf
                            refine lv_tableIn (off := 135) (tgt := 159) hx hb dX8_does_24 (by rw [c31]; decide) (by rw [c31]; decide) (by rw [c31]; rfl) (by decide) ?_
                            exact hJ159 S a0 hf H locs ls hH (lv_sub hl [2] rfl)
                          · have hf := (if_neg c31).mp hf
                            by_cases c32 : v6 = 111
                            · have hf := (if_pos c32).mp hf
                              refine lv_tableIn (off := 135) (tgt := 159) hx hb dX8_does_24 (by rw [c32]; decide) (by rw [c32]; decide) (by rw [c32]; rfl) (by decide) ?_
                              exact hJ159 S a0 hf H locs ls hH (lv_sub hl [2] rfl)
                            · have hf := (if_neg c32).mp hf
                              by_cases c33 : v6 = 112
                              · have hf := (if_pos c33).mp hf
                                refine lv_tableIn (off := 135) (tgt := 159) hx hb dX8_does_24 (by rw [c33]; decide) (by rw [c33]; decide) (by rw [c33]; rfl) (by decide) ?_
                                exact hJ159 S a0 hf H locs ls hH (lv_sub hl [2] rfl)
                              · have hf := (if_neg c33).mp hf
                                by_cases c34 : v6 = 113
                                · have hf := (if_pos c34).mp hf
                                  refine lv_tableIn (off := 135) (tgt := 159) hx hb dX8_does_24 (by rw [c34]; decide) (by rw [c34]; decide) (by rw [c34]; rfl) (by decide) ?_
                                  exact hJ159 S a0 hf H locs ls hH (lv_sub hl [2] rfl)
                                · have hf := (if_neg c34).mp hf
                                  by_cases c35 : v6 = 114
                                  · have hf := (if_pos c35).mp hf
                                    refine lv_tableIn (off := 135) (tgt := 159) hx hb dX8_does_24 (by rw [c35]; decide) (by rw [c35]; decide) (by rw [c35]; rfl) (by decide) ?_
                                    exact hJ159 S a0 hf H locs ls hH (lv_sub hl [2] rfl)
                                  · have hf := (if_neg c35).mp hf
                                    by_cases c36 : v6 = 115
                                    · have hf := (if_pos c36).mp hf
                                      refine lv_tableIn (off := 128) (tgt := 152) hx hb dX8_does_24 (by rw [c36]; decide) (by rw [c36]; decide) (by rw [c36]; rfl) (by decide) ?_
                                      refine lv_aload_n hx hb dX8_does_152 rfl (lv_at hl 2 rfl) ?_
                                      refine lv_iload_n hx hb dX8_does_153 rfl (lv_at hl 1 rfl) ?_
                                      refine lv_iload_n hx hb dX8_does_154 rfl (lv_at hl 0 rfl) ?_
                                      obtain ⟨hb1, hb2, hf⟩ := hf
                                      refine q_backI0 X hH (q_runV [.int v2, .int v4] [] X hH hl (c_X8_stands l D cy G X.2.2.2.1 S a0 v2 v4 _ _ hf) mf_X8_stands mv_X8_stands tw_1789 ⟨Nat.le_of_ble_eq_true rfl, Nat.le_of_ble_eq_true rfl⟩ hb1 hb2 (T := TX8) (N := 25) rfl rfl (Nat.le_of_ble_eq_true rfl) dX8_does_155 ⟨Nat.le_of_ble_eq_true rfl, Nat.le_of_ble_eq_true rfl⟩) (fun v38 S37 hf H locs hH => ?_)
                                      exact q_retZ X hH hr hlk hf (Nat.zero_le _) (Nat.zero_le _) dX8_does_158
                                    · have hf := (if_neg c36).mp hf
                                      refine lv_tableOut (tgt := 159) hx hb dX8_does_24 (by have z0 := lv_neT c7 (a := 98) rfl; have z1 := lv_neT c12 (a := 99) rfl; have z2 := lv_neT c13 (a := 100) rfl; have z3 := lv_neT c14 (a := 101) rfl; have z4 := lv_neT c15 (a := 102) rfl; have z5 := lv_neT c16 (a := 103) rfl; have z6 := lv_neT c19 (a := 104) rfl; have z7 := lv_neT c22 (a := 105) rfl; have z8 := lv_neT c23 (a := 106) rfl; have z9 := lv_neT c24 (a := 107) rfl; have z10 := lv_neT c25 (a := 108) rfl; have z11 := lv_neT c28 (a := 109) rfl; have z12 := lv_neT c31 (a := 110) rfl; have z13 := lv_neT c32 (a := 111) rfl; have z14 := lv_neT c33 (a := 112) rfl; have z15 := lv_neT c34 (a := 113) rfl; have z16 := lv_neT c35 (a := 114) rfl; have z17 := lv_neT c36 (a := 115) rfl; omega) (by decide) ?_
                                      exact hJ159 S a0 hf H locs ls hH (lv_sub hl [2] rfl)
-- X8_run
def f_X8_run_J118 (post : Int32 → PS → Prop) (S : PS) (t0 : Int32) (t1 : Nat) : Prop :=
  isO S t1 12 (
  f_X8_ends S t1 t0 2 fun v2 S1 => (
  post v2 S1))
def f_X8_run_J96 (post : Int32 → PS → Prop) (S : PS) (l0 : Nat) (l1 : Int32) : Prop :=
  gI S l0 12 22 fun v1 => (
  pV S l0 12 4 (.int v1) fun S2 => (
  gI S2 l0 12 22 fun v3 => (
  if l1 = v3 then
    f_X8_run_J118 post S2 1 l0
  else
    f_X8_run_J118 post S2 0 l0)))
def f_X8_run_J61 (post : Int32 → PS → Prop) (S : PS) (l0 : Nat) (l1 : Int32) : Prop :=
  gI S l0 12 22 fun v1 => (
  if v1 ≤ l1 then
    f_X8_run_J96 post S l0 l1
  else
    gI S l0 12 5 fun v3 => (
    pV S l0 12 7 (.int v3) fun S4 => (
    gI S4 l0 12 6 fun v5 => (
    pV S4 l0 12 8 (.int v5) fun S6 => (
    pV S6 l0 12 5 (.int 8) fun S7 => (
    pV S7 l0 12 6 (.int l1) fun S8 => (
    f_X8_run_J96 post S8 l0 l1)))))))
def f_X8_run_L37 (post : Int32 → PS → Prop) : Nat → PS → Nat → Int32 → Prop
  | 0, _, _, _ => False
  | n + 1, S, l0, l1 =>
  gI S l0 12 22 fun v1 => (
  if v1 ≤ l1 then
    f_X8_run_J61 post S l0 l1
  else
    isO S l0 12 (
    f_X8_does S l0 ((4 : Int32) * l1) fun v4 S3 => (
    if v4 = 0 then
      f_X8_run_J61 post S3 l0 l1
    else
      (f_X8_run_L37 post n) S3 l0 (l1 + 1))))
def f_X8_run (S : PS) (a0 : Nat) (post : Int32 → PS → Prop) : Prop :=
  isO S a0 12 (
  f_X8_parse S a0 fun S1 => (
  pV S1 a0 12 17 (.int 0) fun S3 => (
  gI S3 a0 12 19 fun v4 => (
  pV S3 a0 12 20 (.int v4) fun S5 => (
  gI S5 a0 12 19 fun v6 => (
  if v6 < 0 then
    isO S5 a0 12 (
    f_X8_begins S5 a0 fun S8 => (
    f_X8_run_L37 post 4096 S8 a0 0))
  else
    pV S5 a0 12 0 (.int 1) fun S10 => (
    post 0 S10)))))))
abbrev rm_X8_run : Room := { frames := 6, cells := 0, slots := 0, locals := 143 }
set_option maxHeartbeats 4000000 in
set_option maxRecDepth 100000 in
theorem c_X8_run (l : Launch) (D : va_G) (cy : Nat → ClassId) (G : p_GT) (hG : p_ok G) (S : PS) (a0 : Nat) (post : Int32 → PS → Prop) (sz : Nat) (hf : f_X8_run S a0 post) : p_Mi l D cy G S sz yX8_run (Cond.code yX8_run cX8_run 2 (some .int) :: wG) rm_X8_run [.ref a0] 0 0 post := by
  refine q_start hG (Qc := fun A => va_Qi post (p_Post D cy A) A) mf_X8_run (Nat.le_of_ble_eq_true rfl) (own := RX8) rfl ?_
  intro p e s m below meth c A X hr hlk hnm ls hl hH
  have hx := X.1.1
  have hb := X.1.2.1
  replace hl : lv_has ls 2 [(0, .ref a0)] := hl
  obtain ⟨H, hHe⟩ : ∃ H, H = s.heap := ⟨_, rfl⟩
  obtain ⟨locs, hlo⟩ : ∃ locs : List Loc, locs = [] := ⟨_, rfl⟩
  rw [← hHe, ← hlo] at hH
  show W p l e rm_X8_run s m [.ref a0].toArray below meth c s.heap [] 0 0 _ _
  rw [← hHe, ← hlo]
  have hL37 : ∀ (n37 : Nat) (S : PS) (l0 : Nat) (l1 : Int32), f_X8_run_L37 post n37 S l0 l1 → ∀ (H : Heap) (locs : List Loc) (ls : Array Slot), p_H D cy S A s H locs → lv_has ls 2 [(0, .ref l0), (1, .int l1)] → W p l e rm_X8_run s m [.ref a0].toArray below meth c H locs 0 0 (MQ below (va_Qi post (p_Post D cy A) A) [.ref a0].toArray s 0 0 A) (F0 m 37 ls []) := by
    intro n37
    induction n37 with
    | zero => intro S l0 l1 hf; exact hf.elim
    | succ n37 ih37 =>
      intro S l0 l1 hf H locs ls hH hl
      have hJ61 : ∀ (S : PS) (l0 : Nat) (l1 : Int32), f_X8_run_J61 post S l0 l1 → ∀ (H : Heap) (locs : List Loc) (ls : Array Slot), p_H D cy S A s H locs → lv_has ls 2 [(0, .ref l0), (1, .int l1)] → W p l e rm_X8_run s m [.ref a0].toArray below meth c H locs 0 0 (MQ below (va_Qi post (p_Post D cy A) A) [.ref a0].toArray s 0 0 A) (F0 m 61 ls []) := by
        intro S l0 l1 hf H locs ls hH hl
        have hJ96 : ∀ (S : PS) (l0 : Nat) (l1 : Int32), f_X8_run_J96 post S l0 l1 → ∀ (H : Heap) (locs : List Loc) (ls : Array Slot), p_H D cy S A s H locs → lv_has ls 2 [(0, .ref l0), (1, .int l1)] → W p l e rm_X8_run s m [.ref a0].toArray below meth c H locs 0 0 (MQ below (va_Qi post (p_Post D cy A) A) [.ref a0].toArray s 0 0 A) (F0 m 96 ls []) := by
          intro S l0 l1 hf H locs ls hH hl
          have hJ118 : ∀ (S : PS) (t0 : Int32) (t1 : Nat), f_X8_run_J118 post S t0 t1 → ∀ (H : Heap) (locs : List Loc) (ls : Array Slot), p_H D cy S A s H locs → lv_has ls 2 [] → W p l e rm_X8_run s m [.ref a0].toArray below meth c H locs 0 0 (MQ below (va_Qi post (p_Post D cy A) A) [.ref a0].toArray s 0 0 A) (F0 m 118 ls [.int t0, .ref t1]) := by
            intro S t0 t1 hf H locs ls hH hl
            refine lv_iconst (v := 2) hx hb dX8_run_118 (by decide) ?_
            obtain ⟨hb1, hb2, hf⟩ := hf
            refine q_backI0 X hH (q_runV [.int t0, .int 2] [] X hH hl (c_X8_ends l D cy G X.2.2.2.1 S t1 t0 2 _ _ hf) mf_X8_ends mv_X8_ends tw_1721 ⟨Nat.le_of_ble_eq_true rfl, Nat.le_of_ble_eq_true rfl⟩ hb1 hb2 (T := TX8) (N := 25) rfl rfl (Nat.le_of_ble_eq_true rfl) dX8_run_119 ⟨Nat.le_of_ble_eq_true rfl, Nat.le_of_ble_eq_true rfl⟩) (fun v2 S1 hf H locs hH => ?_)
            exact q_retI X hH hr hlk hf (Nat.zero_le _) (Nat.zero_le _) dX8_run_122
          refine lv_aload_n hx hb dX8_run_96 rfl (lv_at hl 0 rfl) ?_
          refine lv_aload_n hx hb dX8_run_97 rfl (lv_at hl 0 rfl) ?_
          refine q_getI (T := TX8) (N := 25) X hH hf iw_X8 rfl (by decide) tw_1631 (fun _ h => h) dX8_run_98 (fun v1 hf => ?_)
          refine q_putV (T := TX8) (N := 25) (ty0 := tyX8) (ty := tyX8 4) X hH hf iw_X8 tyX8_ok nmX8 rfl (by decide) tw_1613 (fun _ h => h) rfl (tyX8_ok 4 (by decide)) rfl rfl dX8_run_101 (fun S2 hf H locs hH => ?_)
          refine lv_aload_n hx hb dX8_run_104 rfl (lv_at hl 0 rfl) ?_
          refine lv_iload_n hx hb dX8_run_105 rfl (lv_at hl 1 rfl) ?_
          refine lv_aload_n hx hb dX8_run_106 rfl (lv_at hl 0 rfl) ?_
          refine q_getI (T := TX8) (N := 25) X hH hf iw_X8 rfl (by decide) tw_1631 (fun _ h => h) dX8_run_107 (fun v3 hf => ?_)
          refine lv_icmp_ne (tgt := 117) hx hb dX8_run_110 (by decide) (fun c4 => ?_) (fun c4 => ?_)
          · have hf := (if_neg c4).mp hf
            refine lv_iconst (v := 0) hx hb dX8_run_117 (by decide) ?_
            exact hJ118 S2 0 l0 hf H locs ls hH (lv_sub hl [] rfl)
          · have hf := (if_pos c4).mp hf
            refine lv_iconst (v := 1) hx hb dX8_run_113 (by decide) ?_
            refine lv_goto (tgt := 118) hx hb dX8_run_114 (by decide) ?_
            exact hJ118 S2 1 l0 hf H locs ls hH (lv_sub hl [] rfl)
        refine lv_iload_n hx hb dX8_run_61 rfl (lv_at hl 1 rfl) ?_
        refine lv_aload_n hx hb dX8_run_62 rfl (lv_at hl 0 rfl) ?_
        refine q_getI (T := TX8) (N := 25) X hH hf iw_X8 rfl (by decide) tw_1631 (fun _ h => h) dX8_run_63 (fun v1 hf => ?_)
        refine lv_icmp_ge (tgt := 96) hx hb dX8_run_66 (by decide) (fun c2 => ?_) (fun c2 => ?_)
        · have hf := (if_pos c2).mp hf
          exact hJ96 S l0 l1 hf H locs ls hH hl
        · have hf := (if_neg c2).mp hf
          refine lv_aload_n hx hb dX8_run_69 rfl (lv_at hl 0 rfl) ?_
          refine lv_aload_n hx hb dX8_run_70 rfl (lv_at hl 0 rfl) ?_
          refine q_getI (T := TX8) (N := 25) X hH hf iw_X8 rfl (by decide) tw_1614 (fun _ h => h) dX8_run_71 (fun v3 hf => ?_)
          refine q_putV (T := TX8) (N := 25) (ty0 := tyX8) (ty := tyX8 7) X hH hf iw_X8 tyX8_ok nmX8 rfl (by decide) tw_1616 (fun _ h => h) rfl (tyX8_ok 7 (by decide)) rfl rfl dX8_run_74 (fun S4 hf H locs hH => ?_)
          refine lv_aload_n hx hb dX8_run_77 rfl (lv_at hl 0 rfl) ?_
          refine lv_aload_n hx hb dX8_run_78 rfl (lv_at hl 0 rfl) ?_
          refine q_getI (T := TX8) (N := 25) X hH hf iw_X8 rfl (by decide) tw_1615 (fun _ h => h) dX8_run_79 (fun v5 hf => ?_)
          refine q_putV (T := TX8) (N := 25) (ty0 := tyX8) (ty := tyX8 8) X hH hf iw_X8 tyX8_ok nmX8 rfl (by decide) tw_1617 (fun _ h => h) rfl (tyX8_ok 8 (by decide)) rfl rfl dX8_run_82 (fun S6 hf H locs hH => ?_)
          refine lv_aload_n hx hb dX8_run_85 rfl (lv_at hl 0 rfl) ?_
          refine lv_bipush (v := 8) hx hb dX8_run_86 (by decide) ?_
          refine q_putV (T := TX8) (N := 25) (ty0 := tyX8) (ty := tyX8 5) X hH hf iw_X8 tyX8_ok nmX8 rfl (by decide) tw_1614 (fun _ h => h) rfl (tyX8_ok 5 (by decide)) rfl rfl dX8_run_88 (fun S7 hf H locs hH => ?_)
          refine lv_aload_n hx hb dX8_run_91 rfl (lv_at hl 0 rfl) ?_
          refine lv_iload_n hx hb dX8_run_92 rfl (lv_at hl 1 rfl) ?_
          refine q_putV (T := TX8) (N := 25) (ty0 := tyX8) (ty := tyX8 6) X hH hf iw_X8 tyX8_ok nmX8 rfl (by decide) tw_1615 (fun _ h => h) rfl (tyX8_ok 6 (by decide)) rfl rfl dX8_run_93 (fun S8 hf H locs hH => ?_)
          exact hJ96 S8 l0 l1 hf H locs ls hH hl
      refine lv_iload_n hx hb dX8_run_37 rfl (lv_at hl 1 rfl) ?_
      refine lv_aload_n hx hb dX8_run_38 rfl (lv_at hl 0 rfl) ?_
      refine q_getI (T := TX8) (N := 25) X hH hf iw_X8 rfl (by decide) tw_1631 (fun _ h => h) dX8_run_39 (fun v1 hf => ?_)
      refine lv_icmp_ge (tgt := 61) hx hb dX8_run_42 (by decide) (fun c2 => ?_) (fun c2 => ?_)
      · have hf := (if_pos c2).mp hf
        exact hJ61 S l0 l1 hf H locs ls hH hl
      · have hf := (if_neg c2).mp hf
        refine lv_aload_n hx hb dX8_run_45 rfl (lv_at hl 0 rfl) ?_
        refine lv_iconst (v := 4) hx hb dX8_run_46 (by decide) ?_
        refine lv_iload_n hx hb dX8_run_47 rfl (lv_at hl 1 rfl) ?_
        refine lv_imul hx hb dX8_run_48 ?_
        obtain ⟨hb1, hb2, hf⟩ := hf
        refine q_backI0 X hH (q_runV [.int ((4 : Int32) * l1)] [] X hH hl (c_X8_does l D cy G X.2.2.2.1 S l0 ((4 : Int32) * l1) _ _ hf) mf_X8_does mv_X8_does tw_2028 ⟨Nat.le_of_ble_eq_true rfl, Nat.le_of_ble_eq_true rfl⟩ hb1 hb2 (T := TX8) (N := 25) rfl rfl (Nat.le_of_ble_eq_true rfl) dX8_run_49 ⟨Nat.le_of_ble_eq_true rfl, Nat.le_of_ble_eq_true rfl⟩) (fun v4 S3 hf H locs hH => ?_)
        refine lv_if_eq (tgt := 61) hx hb dX8_run_52 (by decide) (fun c5 => ?_) (fun c5 => ?_)
        · have hf := (if_pos c5).mp hf
          exact hJ61 S3 l0 l1 hf H locs ls hH hl
        · have hf := (if_neg c5).mp hf
          refine lv_iinc (v := l1 + 1) (lv' := [(1, .int (l1 + 1)), (0, .ref l0)]) hx hb dX8_run_55 hl (k := 1) rfl rfl (by decide) rfl (fun ls hl => ?_)
          refine lv_goto (tgt := 37) hx hb dX8_run_58 (by decide) ?_
          exact ih37 S3 l0 (l1 + 1) hf H locs ls hH (lv_sub hl [1, 0] rfl)
  refine lv_aload_n hx hb dX8_run_0 rfl (lv_at hl 0 rfl) ?_
  obtain ⟨hb1, hb2, hf⟩ := hf
  refine q_backV0 X hH (q_runV [] [] X hH hl (c_X8_parse l D cy G X.2.2.2.1 S a0 _ _ hf) mf_X8_parse mv_X8_parse tw_2000 ⟨Nat.le_of_ble_eq_true rfl, Nat.le_of_ble_eq_true rfl⟩ hb1 hb2 (T := TX8) (N := 25) rfl rfl (Nat.le_of_ble_eq_true rfl) dX8_run_1 ⟨Nat.le_of_ble_eq_true rfl, Nat.le_of_ble_eq_true rfl⟩) (fun S1 hf H locs hH => ?_)
  refine lv_aload_n hx hb dX8_run_4 rfl (lv_at hl 0 rfl) ?_
  refine lv_iconst (v := 0) hx hb dX8_run_5 (by decide) ?_
  refine q_putV (T := TX8) (N := 25) (ty0 := tyX8) (ty := tyX8 17) X hH hf iw_X8 tyX8_ok nmX8 rfl (by decide) tw_1626 (fun _ h => h) rfl (tyX8_ok 17 (by decide)) rfl rfl dX8_run_6 (fun S3 hf H locs hH => ?_)
  refine lv_aload_n hx hb dX8_run_9 rfl (lv_at hl 0 rfl) ?_
  refine lv_aload_n hx hb dX8_run_10 rfl (lv_at hl 0 rfl) ?_
  refine q_getI (T := TX8) (N := 25) X hH hf iw_X8 rfl (by decide) tw_1628 (fun _ h => h) dX8_run_11 (fun v4 hf => ?_)
  refine q_putV (T := TX8) (N := 25) (ty0 := tyX8) (ty := tyX8 20) X hH hf iw_X8 tyX8_ok nmX8 rfl (by decide) tw_1629 (fun _ h => h) rfl (tyX8_ok 20 (by decide)) rfl rfl dX8_run_14 (fun S5 hf H locs hH => ?_)
  refine lv_aload_n hx hb dX8_run_17 rfl (lv_at hl 0 rfl) ?_
  refine q_getI (T := TX8) (N := 25) X hH hf iw_X8 rfl (by decide) tw_1628 (fun _ h => h) dX8_run_18 (fun v6 hf => ?_)
  refine lv_if_lt (tgt := 31) hx hb dX8_run_21 (by decide) (fun c7 => ?_) (fun c7 => ?_)
  · have hf := (if_pos c7).mp hf
    refine lv_aload_n hx hb dX8_run_31 rfl (lv_at hl 0 rfl) ?_
    obtain ⟨hb1, hb2, hf⟩ := hf
    refine q_backV0 X hH (q_runV [] [] X hH hl (c_X8_begins l D cy G X.2.2.2.1 S5 a0 _ _ hf) mf_X8_begins mv_X8_begins tw_1701 ⟨Nat.le_of_ble_eq_true rfl, Nat.le_of_ble_eq_true rfl⟩ hb1 hb2 (T := TX8) (N := 25) rfl rfl (Nat.le_of_ble_eq_true rfl) dX8_run_32 ⟨Nat.le_of_ble_eq_true rfl, Nat.le_of_ble_eq_true rfl⟩) (fun S8 hf H locs hH => ?_)
    refine lv_iconst (v := 0) hx hb dX8_run_35 (by decide) ?_
    refine lv_istore_n (lv' := [(1, .int 0), (0, .ref a0)]) hx hb dX8_run_36 rfl hl (by decide) rfl (fun ls hl => ?_)
    exact hL37 4096 S8 a0 0 hf H locs ls hH (lv_sub hl [1, 0] rfl)
  · have hf := (if_neg c7).mp hf
    refine lv_aload_n hx hb dX8_run_24 rfl (lv_at hl 0 rfl) ?_
    refine lv_iconst (v := 1) hx hb dX8_run_25 (by decide) ?_
    refine q_putV (T := TX8) (N := 25) (ty0 := tyX8) (ty := tyX8 0) X hH hf iw_X8 tyX8_ok nmX8 rfl (by decide) tw_1609 (fun _ h => h) rfl (tyX8_ok 0 (by decide)) rfl rfl dX8_run_26 (fun S10 hf H locs hH => ?_)
    refine lv_iconst (v := 0) hx hb dX8_run_29 (by decide) ?_
    exact q_retI X hH hr hlk hf (Nat.zero_le _) (Nat.zero_le _) dX8_run_30
