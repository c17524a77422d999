-- X8_run
def f_X8_run_J118 (post : Int32 → PS → Prop) (S : PS) (t0 : Int32) (t1 : Nat) : Prop :=
  isO S t1 12 (
  f_X8_ends S t1 t0 2 fun v2 S1 => (
  post v2 S1))
def f_X8_run_J96 (post : Int32 → PS → Prop) (S : PS) (l0 : Nat) (l1 : Int32) : Prop :=
  gI S l0 12 22 fun v1 => (
  pV S l0 12 4 (.int v1) fun S2 => (
  gI S2 l0 12 22 fun v3 => (
  if l1 = v3 then
    f_X8_run_J118 post S2 1 l0
  else
    f_X8_run_J118 post S2 0 l0)))
def f_X8_run_J61 (post : Int32 → PS → Prop) (S : PS) (l0 : Nat) (l1 : Int32) : Prop :=
  gI S l0 12 22 fun v1 => (
  if v1 ≤ l1 then
    f_X8_run_J96 post S l0 l1
  else
    gI S l0 12 5 fun v3 => (
    pV S l0 12 7 (.int v3) fun S4 => (
    gI S4 l0 12 6 fun v5 => (
    pV S4 l0 12 8 (.int v5) fun S6 => (
    pV S6 l0 12 5 (.int 8) fun S7 => (
    pV S7 l0 12 6 (.int l1) fun S8 => (
    f_X8_run_J96 post S8 l0 l1)))))))
def f_X8_run_L37 (post : Int32 → PS → Prop) : Nat → PS → Nat → Int32 → Prop
  | 0, _, _, _ => False
  | n + 1, S, l0, l1 =>
  gI S l0 12 22 fun v1 => (
  if v1 ≤ l1 then
    f_X8_run_J61 post S l0 l1
  else
    isO S l0 12 (
    f_X8_does S l0 ((4 : Int32) * l1) fun v4 S3 => (
    if v4 = 0 then
      f_X8_run_J61 post S3 l0 l1
    else
      (f_X8_run_L37 post n) S3 l0 (l1 + 1))))
def f_X8_run (S : PS) (a0 : Nat) (post : Int32 → PS → Prop) : Prop :=
  isO S a0 12 (
  f_X8_parse S a0 fun S1 => (
  pV S1 a0 12 17 (.int 0) fun S3 => (
  gI S3 a0 12 19 fun v4 => (
  pV S3 a0 12 20 (.int v4) fun S5 => (
  gI S5 a0 12 19 fun v6 => (
  if v6 < 0 then
    isO S5 a0 12 (
    f_X8_begins S5 a0 fun S8 => (
    f_X8_run_L37 post 4096 S8 a0 0))
  else
    pV S5 a0 12 0 (.int 1) fun S10 => (
    post 0 S10)))))))
abbrev rm_X8_run : Room := { frames := 6, cells := 0, slots := 0, locals := 143 }
set_option maxHeartbeats 4000000 in
set_option maxRecDepth 100000 in
theorem c_X8_run (l : Launch) (D : va_G) (cy : Nat → ClassId) (G : p_GT) (hG : p_ok G) (S : PS) (a0 : Nat) (post : Int32 → PS → Prop) (sz : Nat) (hf : f_X8_run S a0 post) : p_Mi l D cy G S sz yX8_run (Cond.code yX8_run cX8_run 2 (some .int) :: wG) rm_X8_run [.ref a0] 0 0 post := by
  refine q_start hG (Qc := fun A => va_Qi post (p_Post D cy A) A) mf_X8_run (Nat.le_of_ble_eq_true rfl) (own := RX8) rfl ?_
  intro p e s m below meth c A X hr hlk hnm ls hl hH
  have hx := X.1.1
  have hb := X.1.2.1
  replace hl : lv_has ls 2 [(0, .ref a0)] := hl
  obtain ⟨H, hHe⟩ : ∃ H, H = s.heap := ⟨_, rfl⟩
  obtain ⟨locs, hlo⟩ : ∃ locs : List Loc, locs = [] := ⟨_, rfl⟩
  rw [← hHe, ← hlo] at hH
  show W p l e rm_X8_run s m [.ref a0].toArray below meth c s.heap [] 0 0 _ _
  rw [← hHe, ← hlo]
  have hL37 : ∀ (n37 : Nat) (S : PS) (l0 : Nat) (l1 : Int32), f_X8_run_L37 post n37 S l0 l1 → ∀ (H : Heap) (locs : List Loc) (ls : Array Slot), p_H D cy S A s H locs → lv_has ls 2 [(0, .ref l0), (1, .int l1)] → W p l e rm_X8_run s m [.ref a0].toArray below meth c H locs 0 0 (MQ below (va_Qi post (p_Post D cy A) A) [.ref a0].toArray s 0 0 A) (F0 m 37 ls []) := by
    intro n37
    induction n37 with
    | zero => intro S l0 l1 hf; exact hf.elim
    | succ n37 ih37 =>
      intro S l0 l1 hf H locs ls hH hl
      have hJ61 : ∀ (S : PS) (l0 : Nat) (l1 : Int32), f_X8_run_J61 post S l0 l1 → ∀ (H : Heap) (locs : List Loc) (ls : Array Slot), p_H D cy S A s H locs → lv_has ls 2 [(0, .ref l0), (1, .int l1)] → W p l e rm_X8_run s m [.ref a0].toArray below meth c H locs 0 0 (MQ below (va_Qi post (p_Post D cy A) A) [.ref a0].toArray s 0 0 A) (F0 m 61 ls []) := by
        intro S l0 l1 hf H locs ls hH hl
        have hJ96 : ∀ (S : PS) (l0 : Nat) (l1 : Int32), f_X8_run_J96 post S l0 l1 → ∀ (H : Heap) (locs : List Loc) (ls : Array Slot), p_H D cy S A s H locs → lv_has ls 2 [(0, .ref l0), (1, .int l1)] → W p l e rm_X8_run s m [.ref a0].toArray below meth c H locs 0 0 (MQ below (va_Qi post (p_Post D cy A) A) [.ref a0].toArray s 0 0 A) (F0 m 96 ls []) := by
          intro S l0 l1 hf H locs ls hH hl
          have hJ118 : ∀ (S : PS) (t0 : Int32) (t1 : Nat), f_X8_run_J118 post S t0 t1 → ∀ (H : Heap) (locs : List Loc) (ls : Array Slot), p_H D cy S A s H locs → lv_has ls 2 [] → W p l e rm_X8_run s m [.ref a0].toArray below meth c H locs 0 0 (MQ below (va_Qi post (p_Post D cy A) A) [.ref a0].toArray s 0 0 A) (F0 m 118 ls [.int t0, .ref t1]) := by
            intro S t0 t1 hf H locs ls hH hl
            refine lv_iconst (v := 2) hx hb dX8_run_118 (by decide) ?_
            obtain ⟨hb1, hb2, hf⟩ := hf
            refine q_backI0 X hH (q_runV [.int t0, .int 2] [] X hH hl (c_X8_ends l D cy G X.2.2.2.1 S t1 t0 2 _ _ hf) mf_X8_ends mv_X8_ends tw_1721 ⟨Nat.le_of_ble_eq_true rfl, Nat.le_of_ble_eq_true rfl⟩ hb1 hb2 (T := TX8) (N := 25) rfl rfl (Nat.le_of_ble_eq_true rfl) dX8_run_119 ⟨Nat.le_of_ble_eq_true rfl, Nat.le_of_ble_eq_true rfl⟩) (fun v2 S1 hf H locs hH => ?_)
            exact q_retI X hH hr hlk hf (Nat.zero_le _) (Nat.zero_le _) dX8_run_122
          refine lv_aload_n hx hb dX8_run_96 rfl (lv_at hl 0 rfl) ?_
          refine lv_aload_n hx hb dX8_run_97 rfl (lv_at hl 0 rfl) ?_
          refine q_getI (T := TX8) (N := 25) X hH hf iw_X8 rfl (by decide) tw_1631 (fun _ h => h) dX8_run_98 (fun v1 hf => ?_)
          refine q_putV (T := TX8) (N := 25) (ty0 := tyX8) (ty := tyX8 4) X hH hf iw_X8 tyX8_ok nmX8 rfl (by decide) tw_1613 (fun _ h => h) rfl (tyX8_ok 4 (by decide)) rfl rfl dX8_run_101 (fun S2 hf H locs hH => ?_)
          refine lv_aload_n hx hb dX8_run_104 rfl (lv_at hl 0 rfl) ?_
          refine lv_iload_n hx hb dX8_run_105 rfl (lv_at hl 1 rfl) ?_
          refine lv_aload_n hx hb dX8_run_106 rfl (lv_at hl 0 rfl) ?_
          refine q_getI (T := TX8) (N := 25) X hH hf iw_X8 rfl (by decide) tw_1631 (fun _ h => h) dX8_run_107 (fun v3 hf => ?_)
          refine lv_icmp_ne (tgt := 117) hx hb dX8_run_110 (by decide) (fun c4 => ?_) (fun c4 => ?_)
          · have hf := (if_neg c4).mp hf
            refine lv_iconst (v := 0) hx hb dX8_run_117 (by decide) ?_
            exact hJ118 S2 0 l0 hf H locs ls hH (lv_sub hl [] rfl)
          · have hf := (if_pos c4).mp hf
            refine lv_iconst (v := 1) hx hb dX8_run_113 (by decide) ?_
            refine lv_goto (tgt := 118) hx hb dX8_run_114 (by decide) ?_
            exact hJ118 S2 1 l0 hf H locs ls hH (lv_sub hl [] rfl)
        refine lv_iload_n hx hb dX8_run_61 rfl (lv_at hl 1 rfl) ?_
        refine lv_aload_n hx hb dX8_run_62 rfl (lv_at hl 0 rfl) ?_
        refine q_getI (T := TX8) (N := 25) X hH hf iw_X8 rfl (by decide) tw_1631 (fun _ h => h) dX8_run_63 (fun v1 hf => ?_)
        refine lv_icmp_ge (tgt := 96) hx hb dX8_run_66 (by decide) (fun c2 => ?_) (fun c2 => ?_)
        · have hf := (if_pos c2).mp hf
          exact hJ96 S l0 l1 hf H locs ls hH hl
        · have hf := (if_neg c2).mp hf
          refine lv_aload_n hx hb dX8_run_69 rfl (lv_at hl 0 rfl) ?_
          refine lv_aload_n hx hb dX8_run_70 rfl (lv_at hl 0 rfl) ?_
          refine q_getI (T := TX8) (N := 25) X hH hf iw_X8 rfl (by decide) tw_1614 (fun _ h => h) dX8_run_71 (fun v3 hf => ?_)
          refine q_putV (T := TX8) (N := 25) (ty0 := tyX8) (ty := tyX8 7) X hH hf iw_X8 tyX8_ok nmX8 rfl (by decide) tw_1616 (fun _ h => h) rfl (tyX8_ok 7 (by decide)) rfl rfl dX8_run_74 (fun S4 hf H locs hH => ?_)
          refine lv_aload_n hx hb dX8_run_77 rfl (lv_at hl 0 rfl) ?_
          refine lv_aload_n hx hb dX8_run_78 rfl (lv_at hl 0 rfl) ?_
          refine q_getI (T := TX8) (N := 25) X hH hf iw_X8 rfl (by decide) tw_1615 (fun _ h => h) dX8_run_79 (fun v5 hf => ?_)
          refine q_putV (T := TX8) (N := 25) (ty0 := tyX8) (ty := tyX8 8) X hH hf iw_X8 tyX8_ok nmX8 rfl (by decide) tw_1617 (fun _ h => h) rfl (tyX8_ok 8 (by decide)) rfl rfl dX8_run_82 (fun S6 hf H locs hH => ?_)
          refine lv_aload_n hx hb dX8_run_85 rfl (lv_at hl 0 rfl) ?_
          refine lv_bipush (v := 8) hx hb dX8_run_86 (by decide) ?_
          refine q_putV (T := TX8) (N := 25) (ty0 := tyX8) (ty := tyX8 5) X hH hf iw_X8 tyX8_ok nmX8 rfl (by decide) tw_1614 (fun _ h => h) rfl (tyX8_ok 5 (by decide)) rfl rfl dX8_run_88 (fun S7 hf H locs hH => ?_)
          refine lv_aload_n hx hb dX8_run_91 rfl (lv_at hl 0 rfl) ?_
          refine lv_iload_n hx hb dX8_run_92 rfl (lv_at hl 1 rfl) ?_
          refine q_putV (T := TX8) (N := 25) (ty0 := tyX8) (ty := tyX8 6) X hH hf iw_X8 tyX8_ok nmX8 rfl (by decide) tw_1615 (fun _ h => h) rfl (tyX8_ok 6 (by decide)) rfl rfl dX8_run_93 (fun S8 hf H locs hH => ?_)
          exact hJ96 S8 l0 l1 hf H locs ls hH hl
      refine lv_iload_n hx hb dX8_run_37 rfl (lv_at hl 1 rfl) ?_
      refine lv_aload_n hx hb dX8_run_38 rfl (lv_at hl 0 rfl) ?_
      refine q_getI (T := TX8) (N := 25) X hH hf iw_X8 rfl (by decide) tw_1631 (fun _ h => h) dX8_run_39 (fun v1 hf => ?_)
      refine lv_icmp_ge (tgt := 61) hx hb dX8_run_42 (by decide) (fun c2 => ?_) (fun c2 => ?_)
      · have hf := (if_pos c2).mp hf
        exact hJ61 S l0 l1 hf H locs ls hH hl
      · have hf := (if_neg c2).mp hf
        refine lv_aload_n hx hb dX8_run_45 rfl (lv_at hl 0 rfl) ?_
        refine lv_iconst (v := 4) hx hb dX8_run_46 (by decide) ?_
        refine lv_iload_n hx hb dX8_run_47 rfl (lv_at hl 1 rfl) ?_
        refine lv_imul hx hb dX8_run_48 ?_
        obtain ⟨hb1, hb2, hf⟩ := hf
        refine q_backI0 X hH (q_runV [.int ((4 : Int32) * l1)] [] X hH hl (c_X8_does l D cy G X.2.2.2.1 S l0 ((4 : Int32) * l1) _ _ hf) mf_X8_does mv_X8_does tw_2028 ⟨Nat.le_of_ble_eq_true rfl, Nat.le_of_ble_eq_true rfl⟩ hb1 hb2 (T := TX8) (N := 25) rfl rfl (Nat.le_of_ble_eq_true rfl) dX8_run_49 ⟨Nat.le_of_ble_eq_true rfl, Nat.le_of_ble_eq_true rfl⟩) (fun v4 S3 hf H locs hH => ?_)
        refine lv_if_eq (tgt := 61) hx hb dX8_run_52 (by decide) (fun c5 => ?_) (fun c5 => ?_)
        · have hf := (if_pos c5).mp hf
          exact hJ61 S3 l0 l1 hf H locs ls hH hl
        · have hf := (if_neg c5).mp hf
          refine lv_iinc (v := l1 + 1) (lv' := [(1, .int (l1 + 1)), (0, .ref l0)]) hx hb dX8_run_55 hl (k := 1) rfl rfl (by decide) rfl (fun ls hl => ?_)
          refine lv_goto (tgt := 37) hx hb dX8_run_58 (by decide) ?_
          exact ih37 S3 l0 (l1 + 1) hf H locs ls hH (lv_sub hl [1, 0] rfl)
  refine lv_aload_n hx hb dX8_run_0 rfl (lv_at hl 0 rfl) ?_
  obtain ⟨hb1, hb2, hf⟩ := hf
  refine q_backV0 X hH (q_runV [] [] X hH hl (c_X8_parse l D cy G X.2.2.2.1 S a0 _ _ hf) mf_X8_parse mv_X8_parse tw_2000 ⟨Nat.le_of_ble_eq_true rfl, Nat.le_of_ble_eq_true rfl⟩ hb1 hb2 (T := TX8) (N := 25) rfl rfl (Nat.le_of_ble_eq_true rfl) dX8_run_1 ⟨Nat.le_of_ble_eq_true rfl, Nat.le_of_ble_eq_true rfl⟩) (fun S1 hf H locs hH => ?_)
  refine lv_aload_n hx hb dX8_run_4 rfl (lv_at hl 0 rfl) ?_
  refine lv_iconst (v := 0) hx hb dX8_run_5 (by decide) ?_
  refine q_putV (T := TX8) (N := 25) (ty0 := tyX8) (ty := tyX8 17) X hH hf iw_X8 tyX8_ok nmX8 rfl (by decide) tw_1626 (fun _ h => h) rfl (tyX8_ok 17 (by decide)) rfl rfl dX8_run_6 (fun S3 hf H locs hH => ?_)
  refine lv_aload_n hx hb dX8_run_9 rfl (lv_at hl 0 rfl) ?_
  refine lv_aload_n hx hb dX8_run_10 rfl (lv_at hl 0 rfl) ?_
  refine q_getI (T := TX8) (N := 25) X hH hf iw_X8 rfl (by decide) tw_1628 (fun _ h => h) dX8_run_11 (fun v4 hf => ?_)
  refine q_putV (T := TX8) (N := 25) (ty0 := tyX8) (ty := tyX8 20) X hH hf iw_X8 tyX8_ok nmX8 rfl (by decide) tw_1629 (fun _ h => h) rfl (tyX8_ok 20 (by decide)) rfl rfl dX8_run_14 (fun S5 hf H locs hH => ?_)
  refine lv_aload_n hx hb dX8_run_17 rfl (lv_at hl 0 rfl) ?_
  refine q_getI (T := TX8) (N := 25) X hH hf iw_X8 rfl (by decide) tw_1628 (fun _ h => h) dX8_run_18 (fun v6 hf => ?_)
  refine lv_if_lt (tgt := 31) hx hb dX8_run_21 (by decide) (fun c7 => ?_) (fun c7 => ?_)
  · have hf := (if_pos c7).mp hf
    refine lv_aload_n hx hb dX8_run_31 rfl (lv_at hl 0 rfl) ?_
    obtain ⟨hb1, hb2, hf⟩ := hf
    refine q_backV0 X hH (q_runV [] [] X hH hl (c_X8_begins l D cy G X.2.2.2.1 S5 a0 _ _ hf) mf_X8_begins mv_X8_begins tw_1701 ⟨Nat.le_of_ble_eq_true rfl, Nat.le_of_ble_eq_true rfl⟩ hb1 hb2 (T := TX8) (N := 25) rfl rfl (Nat.le_of_ble_eq_true rfl) dX8_run_32 ⟨Nat.le_of_ble_eq_true rfl, Nat.le_of_ble_eq_true rfl⟩) (fun S8 hf H locs hH => ?_)
    refine lv_iconst (v := 0) hx hb dX8_run_35 (by decide) ?_
    refine lv_istore_n (lv' := [(1, .int 0), (0, .ref a0)]) hx hb dX8_run_36 rfl hl (by decide) rfl (fun ls hl => ?_)
    exact hL37 4096 S8 a0 0 hf H locs ls hH (lv_sub hl [1, 0] rfl)
  · have hf := (if_neg c7).mp hf
    refine lv_aload_n hx hb dX8_run_24 rfl (lv_at hl 0 rfl) ?_
    refine lv_iconst (v := 1) hx hb dX8_run_25 (by decide) ?_
    refine q_putV (T := TX8) (N := 25) (ty0 := tyX8) (ty := tyX8 0) X hH hf iw_X8 tyX8_ok nmX8 rfl (by decide) tw_1609 (fun _ h => h) rfl (tyX8_ok 0 (by decide)) rfl rfl dX8_run_26 (fun S10 hf H locs hH => ?_)
    refine lv_iconst (v := 0) hx hb dX8_run_29 (by decide) ?_
    exact q_retI X hH hr hlk hf (Nat.zero_le _) (Nat.zero_le _) dX8_run_30
