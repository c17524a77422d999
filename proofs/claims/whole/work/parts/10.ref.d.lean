-- X8_onSide
def f_X8_onSide_J17 (post : Int32 → PS → Prop) (S : PS) (l0 : Nat) (t0 : Int32) (t1 : Int32) : Prop :=
  if t1 = t0 then
    isO S l0 12 (
    f_X8_sideSet S l0 fun v7 S6 => (
    post v7 S6))
  else
    isO S l0 12 (
    f_X8_everyone S l0 fun v3 S2 => (
    isO S2 l0 12 (
    f_X8_sideSet S2 l0 fun v5 S4 => (
    post (v3 &&& (v5 ^^^ (-1))) S4))))
def f_X8_onSide (S : PS) (a0 : Nat) (a1 : Int32) (a2 : Int32) (post : Int32 → PS → Prop) : Prop :=
  gR S a0 12 1 fun v1 => (
  aI S v1 0 ((4 : Int32) + a1) fun v2 => (
  if a2 = 0 then
    f_X8_onSide_J17 post S a0 1 v2
  else
    f_X8_onSide_J17 post S a0 0 v2))
abbrev rm_X8_onSide : Room := { frames := 1, cells := 0, slots := 0, locals := 22 }
set_option maxHeartbeats 4000000 in
set_option maxRecDepth 100000 in
theorem c_X8_onSide (l : Launch) (D : va_G) (cy : Nat → ClassId) (G : p_GT) (hG : p_ok G) (S : PS) (a0 : Nat) (a1 : Int32) (a2 : Int32) (post : Int32 → PS → Prop) (sz : Nat) (hf : f_X8_onSide S a0 a1 a2 post) : p_Mi l D cy G S sz yX8_onSide (Cond.code yX8_onSide cX8_onSide 3 (some .int) :: wG) rm_X8_onSide [.ref a0, .int a1, .int a2] 0 0 post := by
  refine q_start hG (Qc := fun A => va_Qi post (p_Post D cy A) A) mf_X8_onSide (Nat.le_of_ble_eq_true rfl) (own := RX8) rfl ?_
  intro p e s m below meth c A X hr hlk hnm ls hl hH
  have hx := X.1.1
  have hb := X.1.2.1
  replace hl : lv_has ls 3 [(0, .ref a0), (1, .int a1), (2, .int a2)] := hl
  obtain ⟨H, hHe⟩ : ∃ H, H = s.heap := ⟨_, rfl⟩
  obtain ⟨locs, hlo⟩ : ∃ locs : List Loc, locs = [] := ⟨_, rfl⟩
  rw [← hHe, ← hlo] at hH
  show W p l e rm_X8_onSide s m [.ref a0, .int a1, .int a2].toArray below meth c s.heap [] 0 0 _ _
  rw [← hHe, ← hlo]
  have hJ17 : ∀ (S : PS) (l0 : Nat) (t0 : Int32) (t1 : Int32), f_X8_onSide_J17 post S l0 t0 t1 → ∀ (H : Heap) (locs : List Loc) (ls : Array Slot), p_H D cy S A s H locs → lv_has ls 3 [(0, .ref l0)] → W p l e rm_X8_onSide s m [.ref a0, .int a1, .int a2].toArray below meth c H locs 0 0 (MQ below (va_Qi post (p_Post D cy A) A) [.ref a0, .int a1, .int a2].toArray s 0 0 A) (F0 m 17 ls [.int t0, .int t1]) := by
    intro S l0 t0 t1 hf H locs ls hH hl
    refine lv_icmp_ne (tgt := 27) hx hb dX8_onSide_17 (by decide) (fun c1 => ?_) (fun c1 => ?_)
    · have hf := (if_neg c1).mp hf
      refine lv_aload_n hx hb dX8_onSide_27 rfl (lv_at hl 0 rfl) ?_
      obtain ⟨hb1, hb2, hf⟩ := hf
      refine q_backI0 X hH (q_runV [] [] X hH hl (c_X8_everyone l D cy G X.2.2.2.1 S l0 _ _ hf) mf_X8_everyone mv_X8_everyone tw_1801 ⟨Nat.le_of_ble_eq_true rfl, Nat.le_of_ble_eq_true rfl⟩ hb1 hb2 (T := TX8) (N := 25) rfl rfl (Nat.le_of_ble_eq_true rfl) dX8_onSide_28 ⟨Nat.le_of_ble_eq_true rfl, Nat.le_of_ble_eq_true rfl⟩) (fun v3 S2 hf H locs hH => ?_)
      refine lv_aload_n hx hb dX8_onSide_31 rfl (lv_at hl 0 rfl) ?_
      obtain ⟨hb1, hb2, hf⟩ := hf
      refine q_backI0 X hH (q_runV [] [.int v3] X hH hl (c_X8_sideSet l D cy G X.2.2.2.1 S2 l0 _ _ hf) mf_X8_sideSet mv_X8_sideSet tw_1793 ⟨Nat.le_of_ble_eq_true rfl, Nat.le_of_ble_eq_true rfl⟩ hb1 hb2 (T := TX8) (N := 25) rfl rfl (Nat.le_of_ble_eq_true rfl) dX8_onSide_32 ⟨Nat.le_of_ble_eq_true rfl, Nat.le_of_ble_eq_true rfl⟩) (fun v5 S4 hf H locs hH => ?_)
      refine lv_iconst (v := (-1)) hx hb dX8_onSide_35 (by decide) ?_
      refine lv_ixor hx hb dX8_onSide_36 ?_
      refine lv_iand hx hb dX8_onSide_37 ?_
      exact q_retI X hH hr hlk hf (Nat.zero_le _) (Nat.zero_le _) dX8_onSide_38
    · have hf := (if_pos c1).mp hf
      refine lv_aload_n hx hb dX8_onSide_20 rfl (lv_at hl 0 rfl) ?_
      obtain ⟨hb1, hb2, hf⟩ := hf
      refine q_backI0 X hH (q_runV [] [] X hH hl (c_X8_sideSet l D cy G X.2.2.2.1 S l0 _ _ hf) mf_X8_sideSet mv_X8_sideSet tw_1793 ⟨Nat.le_of_ble_eq_true rfl, Nat.le_of_ble_eq_true rfl⟩ hb1 hb2 (T := TX8) (N := 25) rfl rfl (Nat.le_of_ble_eq_true rfl) dX8_onSide_21 ⟨Nat.le_of_ble_eq_true rfl, Nat.le_of_ble_eq_true rfl⟩) (fun v7 S6 hf H locs hH => ?_)
      refine lv_goto (tgt := 38) hx hb dX8_onSide_24 (by decide) ?_
      exact q_retI X hH hr hlk hf (Nat.zero_le _) (Nat.zero_le _) dX8_onSide_38
  refine lv_aload_n hx hb dX8_onSide_0 rfl (lv_at hl 0 rfl) ?_
  refine q_getR (T := TX8) (N := 25) X hH hf iw_X8 rfl (by decide) tw_1610 (fun _ h => h) dX8_onSide_1 (fun v1 hf => ?_)
  refine lv_iconst (v := 4) hx hb dX8_onSide_4 (by decide) ?_
  refine lv_iload_n hx hb dX8_onSide_5 rfl (lv_at hl 1 rfl) ?_
  refine lv_iadd hx hb dX8_onSide_6 ?_
  refine q_iald X hH hf dX8_onSide_7 (fun v2 hf => ?_)
  refine lv_iload_n hx hb dX8_onSide_8 rfl (lv_at hl 2 rfl) ?_
  refine lv_if_eq (tgt := 16) hx hb dX8_onSide_9 (by decide) (fun c3 => ?_) (fun c3 => ?_)
  · have hf := (if_pos c3).mp hf
    refine lv_iconst (v := 1) hx hb dX8_onSide_16 (by decide) ?_
    exact hJ17 S a0 1 v2 hf H locs ls hH (lv_sub hl [0] rfl)
  · have hf := (if_neg c3).mp hf
    refine lv_iconst (v := 0) hx hb dX8_onSide_12 (by decide) ?_
    refine lv_goto (tgt := 17) hx hb dX8_onSide_13 (by decide) ?_
    exact hJ17 S a0 0 v2 hf H locs ls hH (lv_sub hl [0] rfl)
-- X8_householdOf
def f_X8_householdOf_J27 (post : Int32 → PS → Prop) (S : PS) (l0 : Nat) (l1 : Int32) (l2 : Int32) (t0 : Int32) (t1 : Nat) : Prop :=
  pV S t1 12 0 (.int t0) fun S1 => (
  gI S1 l0 12 0 fun v2 => (
  if v2 = 0 then
    if l2 = 0 then
      gR S1 l0 12 1 fun v5 => (
      aI S1 v5 0 ((4 : Int32) + l1) fun v6 => (
      post v6 S1))
    else
    if l2 = 1 then
      isO S1 l0 12 (
      f_X8_bondsOf S1 l0 l1 fun v9 S8 => (
      post v9 S8))
    else
    if l2 = 2 then
      isO S1 l0 12 (
      f_X8_everyone S1 l0 fun v12 S11 => (
      isO S11 l0 12 (
      f_X8_tie S11 l0 ((1 : Int32) <<< (l1 &&& 31)) v12 fun v14 S13 => (
      post v14 S13))))
    else
    if l2 = 3 then
      isO S1 l0 12 (
      f_X8_onSide S1 l0 l1 0 fun v17 S16 => (
      isO S16 l0 12 (
      f_X8_tie S16 l0 ((1 : Int32) <<< (l1 &&& 31)) v17 fun v19 S18 => (
      post v19 S18))))
    else
    if l2 = 4 then
      isO S1 l0 12 (
      f_X8_onSide S1 l0 l1 1 fun v22 S21 => (
      isO S21 l0 12 (
      f_X8_tie S21 l0 ((1 : Int32) <<< (l1 &&& 31)) v22 fun v24 S23 => (
      post v24 S23))))
    else
      isO S1 l0 12 (
      f_X8_tiedMost S1 l0 l1 fun v26 S25 => (
      post v26 S25))
  else
    post 0 S1))
def f_X8_householdOf (S : PS) (a0 : Nat) (a1 : Int32) (a2 : Int32) (post : Int32 → PS → Prop) : Prop :=
  isO S a0 12 (
  f_X8_isHouse S a0 a1 fun v2 S1 => (
  if v2 = 0 then
    f_X8_householdOf_J27 post S1 a0 a1 a2 1 a0
  else
    f_X8_in S1 a2 0 5 fun v5 S4 => (
    if v5 = 0 then
      f_X8_householdOf_J27 post S4 a0 a1 a2 2 a0
    else
      f_X8_householdOf_J27 post S4 a0 a1 a2 0 a0)))
abbrev rm_X8_householdOf : Room := { frames := 2, cells := 0, slots := 0, locals := 47 }
set_option maxHeartbeats 4000000 in
set_option maxRecDepth 100000 in
theorem c_X8_householdOf (l : Launch) (D : va_G) (cy : Nat → ClassId) (G : p_GT) (hG : p_ok G) (S : PS) (a0 : Nat) (a1 : Int32) (a2 : Int32) (post : Int32 → PS → Prop) (sz : Nat) (hf : f_X8_householdOf S a0 a1 a2 post) : p_Mi l D cy G S sz yX8_householdOf (Cond.code yX8_householdOf cX8_householdOf 3 (some .int) :: wG) rm_X8_householdOf [.ref a0, .int a1, .int a2] 0 0 post := by
  refine q_start hG (Qc := fun A => va_Qi post (p_Post D cy A) A) mf_X8_householdOf (Nat.le_of_ble_eq_true rfl) (own := RX8) rfl ?_
  intro p e s m below meth c A X hr hlk hnm ls hl hH
  have hx := X.1.1
  have hb := X.1.2.1
  replace hl : lv_has ls 3 [(0, .ref a0), (1, .int a1), (2, .int a2)] := hl
  obtain ⟨H, hHe⟩ : ∃ H, H = s.heap := ⟨_, rfl⟩
  obtain ⟨locs, hlo⟩ : ∃ locs : List Loc, locs = [] := ⟨_, rfl⟩
  rw [← hHe, ← hlo] at hH
  show W p l e rm_X8_householdOf s m [.ref a0, .int a1, .int a2].toArray below meth c s.heap [] 0 0 _ _
  rw [← hHe, ← hlo]
  have hJ27 : ∀ (S : PS) (l0 : Nat) (l1 : Int32) (l2 : Int32) (t0 : Int32) (t1 : Nat), f_X8_householdOf_J27 post S l0 l1 l2 t0 t1 → ∀ (H : Heap) (locs : List Loc) (ls : Array Slot), p_H D cy S A s H locs → lv_has ls 3 [(0, .ref l0), (1, .int l1), (2, .int l2)] → W p l e rm_X8_householdOf s m [.ref a0, .int a1, .int a2].toArray below meth c H locs 0 0 (MQ below (va_Qi post (p_Post D cy A) A) [.ref a0, .int a1, .int a2].toArray s 0 0 A) (F0 m 27 ls [.int t0, .ref t1]) := by
    intro S l0 l1 l2 t0 t1 hf H locs ls hH hl
    refine q_putV (T := TX8) (N := 25) (ty0 := tyX8) (ty := tyX8 0) X hH hf iw_X8 tyX8_ok nmX8 rfl (by decide) tw_1609 (fun _ h => h) rfl (tyX8_ok 0 (by decide)) rfl rfl dX8_householdOf_27 (fun S1 hf H locs hH => ?_)
    refine lv_aload_n hx hb dX8_householdOf_30 rfl (lv_at hl 0 rfl) ?_
    refine q_getI (T := TX8) (N := 25) X hH hf iw_X8 rfl (by decide) tw_1609 (fun _ h => h) dX8_householdOf_31 (fun v2 hf => ?_)
    refine lv_if_eq (tgt := 39) hx hb dX8_householdOf_34 (by decide) (fun c3 => ?_) (fun c3 => ?_)
    · have hf := (if_pos c3).mp hf
      refine lv_iload_n hx hb dX8_householdOf_39 rfl (lv_at hl 2 rfl) ?_
      by_cases c4 : l2 = 0
      · have hf := (if_pos c4).mp hf
        refine lv_tableIn (off := 36) (tgt := 76) hx hb dX8_householdOf_40 (by rw [c4]; decide) (by rw [c4]; decide) (by rw [c4]; rfl) (by decide) ?_
        refine lv_aload_n hx hb dX8_householdOf_76 rfl (lv_at hl 0 rfl) ?_
        refine q_getR (T := TX8) (N := 25) X hH hf iw_X8 rfl (by decide) tw_1610 (fun _ h => h) dX8_householdOf_77 (fun v5 hf => ?_)
        refine lv_iconst (v := 4) hx hb dX8_householdOf_80 (by decide) ?_
        refine lv_iload_n hx hb dX8_householdOf_81 rfl (lv_at hl 1 rfl) ?_
        refine lv_iadd hx hb dX8_householdOf_82 ?_
        refine q_iald X hH hf dX8_householdOf_83 (fun v6 hf => ?_)
        exact q_retI X hH hr hlk hf (Nat.zero_le _) (Nat.zero_le _) dX8_householdOf_84
      · have hf := (if_neg c4).mp hf
        by_cases c7 : l2 = 1
        · have hf := (if_pos c7).mp hf
          refine lv_tableIn (off := 45) (tgt := 85) hx hb dX8_householdOf_40 (by rw [c7]; decide) (by rw [c7]; decide) (by rw [c7]; rfl) (by decide) ?_
          refine lv_aload_n hx hb dX8_householdOf_85 rfl (lv_at hl 0 rfl) ?_
          refine lv_iload_n hx hb dX8_householdOf_86 rfl (lv_at hl 1 rfl) ?_
          obtain ⟨hb1, hb2, hf⟩ := hf
          refine q_backI0 X hH (q_runV [.int l1] [] X hH hl (c_X8_bondsOf l D cy G X.2.2.2.1 S1 l0 l1 _ _ hf) mf_X8_bondsOf mv_X8_bondsOf tw_1773 ⟨Nat.le_of_ble_eq_true rfl, Nat.le_of_ble_eq_true rfl⟩ hb1 hb2 (T := TX8) (N := 25) rfl rfl (Nat.le_of_ble_eq_true rfl) dX8_householdOf_87 ⟨Nat.le_of_ble_eq_true rfl, Nat.le_of_ble_eq_true rfl⟩) (fun v9 S8 hf H locs hH => ?_)
          exact q_retI X hH hr hlk hf (Nat.zero_le _) (Nat.zero_le _) dX8_householdOf_90
        · have hf := (if_neg c7).mp hf
          by_cases c10 : l2 = 2
          · have hf := (if_pos c10).mp hf
            refine lv_tableIn (off := 51) (tgt := 91) hx hb dX8_householdOf_40 (by rw [c10]; decide) (by rw [c10]; decide) (by rw [c10]; rfl) (by decide) ?_
            refine lv_aload_n hx hb dX8_householdOf_91 rfl (lv_at hl 0 rfl) ?_
            refine lv_iconst (v := 1) hx hb dX8_householdOf_92 (by decide) ?_
            refine lv_iload_n hx hb dX8_householdOf_93 rfl (lv_at hl 1 rfl) ?_
            refine lv_ishl hx hb dX8_householdOf_94 ?_
            refine lv_aload_n hx hb dX8_householdOf_95 rfl (lv_at hl 0 rfl) ?_
            obtain ⟨hb1, hb2, hf⟩ := hf
            refine q_backI0 X hH (q_runV [] [.int ((1 : Int32) <<< (l1 &&& 31)), .ref l0] X hH hl (c_X8_everyone l D cy G X.2.2.2.1 S1 l0 _ _ hf) mf_X8_everyone mv_X8_everyone tw_1801 ⟨Nat.le_of_ble_eq_true rfl, Nat.le_of_ble_eq_true rfl⟩ hb1 hb2 (T := TX8) (N := 25) rfl rfl (Nat.le_of_ble_eq_true rfl) dX8_householdOf_96 ⟨Nat.le_of_ble_eq_true rfl, Nat.le_of_ble_eq_true rfl⟩) (fun v12 S11 hf H locs hH => ?_)
            obtain ⟨hb1, hb2, hf⟩ := hf
            refine q_backI0 X hH (q_runV [.int ((1 : Int32) <<< (l1 &&& 31)), .int v12] [] X hH hl (c_X8_tie l D cy G X.2.2.2.1 S11 l0 ((1 : Int32) <<< (l1 &&& 31)) v12 _ _ hf) mf_X8_tie mv_X8_tie tw_1805 ⟨Nat.le_of_ble_eq_true rfl, Nat.le_of_ble_eq_true rfl⟩ hb1 hb2 (T := TX8) (N := 25) rfl rfl (Nat.le_of_ble_eq_true rfl) dX8_householdOf_99 ⟨Nat.le_of_ble_eq_true rfl, Nat.le_of_ble_eq_true rfl⟩) (fun v14 S13 hf H locs hH => ?_)
            exact q_retI X hH hr hlk hf (Nat.zero_le _) (Nat.zero_le _) dX8_householdOf_102
          · have hf := (if_neg c10).mp hf
            by_cases c15 : l2 = 3
            · have hf := (if_pos c15).mp hf
              refine lv_tableIn (off := 63) (tgt := 103) hx hb dX8_householdOf_40 (by rw [c15]; decide) (by rw [c15]; decide) (by rw [c15]; rfl) (by decide) ?_
              refine lv_aload_n hx hb dX8_householdOf_103 rfl (lv_at hl 0 rfl) ?_
              refine lv_iconst (v := 1) hx hb dX8_householdOf_104 (by decide) ?_
              refine lv_iload_n hx hb dX8_householdOf_105 rfl (lv_at hl 1 rfl) ?_
              refine lv_ishl hx hb dX8_householdOf_106 ?_
              refine lv_aload_n hx hb dX8_householdOf_107 rfl (lv_at hl 0 rfl) ?_
              refine lv_iload_n hx hb dX8_householdOf_108 rfl (lv_at hl 1 rfl) ?_
              refine lv_iconst (v := 0) hx hb dX8_householdOf_109 (by decide) ?_
              obtain ⟨hb1, hb2, hf⟩ := hf
              refine q_backI0 X hH (q_runV [.int l1, .int 0] [.int ((1 : Int32) <<< (l1 &&& 31)), .ref l0] X hH hl (c_X8_onSide l D cy G X.2.2.2.1 S1 l0 l1 0 _ _ hf) mf_X8_onSide mv_X8_onSide tw_1910 ⟨Nat.le_of_ble_eq_true rfl, Nat.le_of_ble_eq_true rfl⟩ hb1 hb2 (T := TX8) (N := 25) rfl rfl (Nat.le_of_ble_eq_true rfl) dX8_householdOf_110 ⟨Nat.le_of_ble_eq_true rfl, Nat.le_of_ble_eq_true rfl⟩) (fun v17 S16 hf H locs hH => ?_)
              obtain ⟨hb1, hb2, hf⟩ := hf
              refine q_backI0 X hH (q_runV [.int ((1 : Int32) <<< (l1 &&& 31)), .int v17] [] X hH hl (c_X8_tie l D cy G X.2.2.2.1 S16 l0 ((1 : Int32) <<< (l1 &&& 31)) v17 _ _ hf) mf_X8_tie mv_X8_tie tw_1805 ⟨Nat.le_of_ble_eq_true rfl, Nat.le_of_ble_eq_true rfl⟩ hb1 hb2 (T := TX8) (N := 25) rfl rfl (Nat.le_of_ble_eq_true rfl) dX8_householdOf_113 ⟨Nat.le_of_ble_eq_true rfl, Nat.le_of_ble_eq_true rfl⟩) (fun v19 S18 hf H locs hH => ?_)
              exact q_retI X hH hr hlk hf (Nat.zero_le _) (Nat.zero_le _) dX8_householdOf_116
            · have hf := (if_neg c15).mp hf
              by_cases c20 : l2 = 4
              · have hf := (if_pos c20).mp hf
                refine lv_tableIn (off := 77) (tgt := 117) hx hb dX8_householdOf_40 (by rw [c20]; decide) (by rw [c20]; decide) (by rw [c20]; rfl) (by decide) ?_
                refine lv_aload_n hx hb dX8_householdOf_117 rfl (lv_at hl 0 rfl) ?_
                refine lv_iconst (v := 1) hx hb dX8_householdOf_118 (by decide) ?_
                refine lv_iload_n hx hb dX8_householdOf_119 rfl (lv_at hl 1 rfl) ?_
                refine lv_ishl hx hb dX8_householdOf_120 ?_
                refine lv_aload_n hx hb dX8_householdOf_121 rfl (lv_at hl 0 rfl) ?_
                refine lv_iload_n hx hb dX8_householdOf_122 rfl (lv_at hl 1 rfl) ?_
                refine lv_iconst (v := 1) hx hb dX8_householdOf_123 (by decide) ?_
                obtain ⟨hb1, hb2, hf⟩ := hf
                refine q_backI0 X hH (q_runV [.int l1, .int 1] [.int ((1 : Int32) <<< (l1 &&& 31)), .ref l0] X hH hl (c_X8_onSide l D cy G X.2.2.2.1 S1 l0 l1 1 _ _ hf) mf_X8_onSide mv_X8_onSide tw_1910 ⟨Nat.le_of_ble_eq_true rfl, Nat.le_of_ble_eq_true rfl⟩ hb1 hb2 (T := TX8) (N := 25) rfl rfl (Nat.le_of_ble_eq_true rfl) dX8_householdOf_124 ⟨Nat.le_of_ble_eq_true rfl, Nat.le_of_ble_eq_true rfl⟩) (fun v22 S21 hf H locs hH => ?_)
                obtain ⟨hb1, hb2, hf⟩ := hf
                refine q_backI0 X hH (q_runV [.int ((1 : Int32) <<< (l1 &&& 31)), .int v22] [] X hH hl (c_X8_tie l D cy G X.2.2.2.1 S21 l0 ((1 : Int32) <<< (l1 &&& 31)) v22 _ _ hf) mf_X8_tie mv_X8_tie tw_1805 ⟨Nat.le_of_ble_eq_true rfl, Nat.le_of_ble_eq_true rfl⟩ hb1 hb2 (T := TX8) (N := 25) rfl rfl (Nat.le_of_ble_eq_true rfl) dX8_householdOf_127 ⟨Nat.le_of_ble_eq_true rfl, Nat.le_of_ble_eq_true rfl⟩) (fun v24 S23 hf H locs hH => ?_)
                exact q_retI X hH hr hlk hf (Nat.zero_le _) (Nat.zero_le _) dX8_householdOf_130
              · have hf := (if_neg c20).mp hf
                refine lv_tableOut (tgt := 131) hx hb dX8_householdOf_40 (by have z0 := lv_neT c4 (a := 0) rfl; have z1 := lv_neT c7 (a := 1) rfl; have z2 := lv_neT c10 (a := 2) rfl; have z3 := lv_neT c15 (a := 3) rfl; have z4 := lv_neT c20 (a := 4) rfl; omega) (by decide) ?_
                refine lv_aload_n hx hb dX8_householdOf_131 rfl (lv_at hl 0 rfl) ?_
                refine lv_iload_n hx hb dX8_householdOf_132 rfl (lv_at hl 1 rfl) ?_
                obtain ⟨hb1, hb2, hf⟩ := hf
                refine q_backI0 X hH (q_runV [.int l1] [] X hH hl (c_X8_tiedMost l D cy G X.2.2.2.1 S1 l0 l1 _ _ hf) mf_X8_tiedMost mv_X8_tiedMost tw_1914 ⟨Nat.le_of_ble_eq_true rfl, Nat.le_of_ble_eq_true rfl⟩ hb1 hb2 (T := TX8) (N := 25) rfl rfl (Nat.le_of_ble_eq_true rfl) dX8_householdOf_133 ⟨Nat.le_of_ble_eq_true rfl, Nat.le_of_ble_eq_true rfl⟩) (fun v26 S25 hf H locs hH => ?_)
                exact q_retI X hH hr hlk hf (Nat.zero_le _) (Nat.zero_le _) dX8_householdOf_136
    · have hf := (if_neg c3).mp hf
      refine lv_iconst (v := 0) hx hb dX8_householdOf_37 (by decide) ?_
      exact q_retI X hH hr hlk hf (Nat.zero_le _) (Nat.zero_le _) dX8_householdOf_38
  refine lv_aload_n hx hb dX8_householdOf_0 rfl (lv_at hl 0 rfl) ?_
  refine lv_aload_n hx hb dX8_householdOf_1 rfl (lv_at hl 0 rfl) ?_
  refine lv_iload_n hx hb dX8_householdOf_2 rfl (lv_at hl 1 rfl) ?_
  obtain ⟨hb1, hb2, hf⟩ := hf
  refine q_backI0 X hH (q_runV [.int a1] [.ref a0] X hH hl (c_X8_isHouse l D cy G X.2.2.2.1 S a0 a1 _ _ hf) mf_X8_isHouse mv_X8_isHouse tw_1737 ⟨Nat.le_of_ble_eq_true rfl, Nat.le_of_ble_eq_true rfl⟩ hb1 hb2 (T := TX8) (N := 25) rfl rfl (Nat.le_of_ble_eq_true rfl) dX8_householdOf_3 ⟨Nat.le_of_ble_eq_true rfl, Nat.le_of_ble_eq_true rfl⟩) (fun v2 S1 hf H locs hH => ?_)
  refine lv_if_ne (tgt := 13) hx hb dX8_householdOf_6 (by decide) (fun c3 => ?_) (fun c3 => ?_)
  · have hf := (if_neg c3).mp hf
    refine lv_iload_n hx hb dX8_householdOf_13 rfl (lv_at hl 2 rfl) ?_
    refine lv_iconst (v := 0) hx hb dX8_householdOf_14 (by decide) ?_
    refine lv_iconst (v := 5) hx hb dX8_householdOf_15 (by decide) ?_
    refine q_backI0 X hH (q_runS [.int a2, .int 0, .int 5] [.ref a0] X hH hl (c_X8_in l D cy G X.2.2.2.1 S1 a2 0 5 _ _ hf) mf_X8_in tw_1695 tw_1694 ⟨Nat.le_of_ble_eq_true rfl, Nat.le_of_ble_eq_true rfl⟩ rfl (Nat.le_of_ble_eq_true rfl) dX8_householdOf_16 ⟨Nat.le_of_ble_eq_true rfl, Nat.le_of_ble_eq_true rfl⟩) (fun v5 S4 hf H locs hH => ?_)
    refine lv_if_eq (tgt := 26) hx hb dX8_householdOf_19 (by decide) (fun c6 => ?_) (fun c6 => ?_)
    · have hf := (if_pos c6).mp hf
      refine lv_iconst (v := 2) hx hb dX8_householdOf_26 (by decide) ?_
      exact hJ27 S4 a0 a1 a2 2 a0 hf H locs ls hH hl
    · have hf := (if_neg c6).mp hf
      refine lv_iconst (v := 0) hx hb dX8_householdOf_22 (by decide) ?_
      refine lv_goto (tgt := 27) hx hb dX8_householdOf_23 (by decide) ?_
      exact hJ27 S4 a0 a1 a2 0 a0 hf H locs ls hH hl
  · have hf := (if_pos c3).mp hf
    refine lv_iconst (v := 1) hx hb dX8_householdOf_9 (by decide) ?_
    refine lv_goto (tgt := 27) hx hb dX8_householdOf_10 (by decide) ?_
    exact hJ27 S1 a0 a1 a2 1 a0 hf H locs ls hH hl
-- X8_isSet
def f_X8_isSet (S : PS) (a0 : Nat) (a1 : Int32) (post : Int32 → PS → Prop) : Prop :=
  if a1 < 0 then
    nZ .boolean 0 (post 0 S)
  else
    isO S a0 12 (
    f_X8_everyone S a0 fun v3 S2 => (
    if (a1 &&& (v3 ^^^ (-1))) = 0 then
      nZ .boolean 1 (post 1 S2)
    else
      nZ .boolean 0 (post 0 S2)))
abbrev rm_X8_isSet : Room := { frames := 1, cells := 0, slots := 0, locals := 20 }
set_option maxHeartbeats 4000000 in
set_option maxRecDepth 100000 in
theorem c_X8_isSet (l : Launch) (D : va_G) (cy : Nat → ClassId) (G : p_GT) (hG : p_ok G) (S : PS) (a0 : Nat) (a1 : Int32) (post : Int32 → PS → Prop) (sz : Nat) (hf : f_X8_isSet S a0 a1 post) : p_Mi l D cy G S sz yX8_isSet (Cond.code yX8_isSet cX8_isSet 2 (some .boolean) :: wG) rm_X8_isSet [.ref a0, .int a1] 0 0 post := by
  refine q_start hG (Qc := fun A => va_Qi post (p_Post D cy A) A) mf_X8_isSet (Nat.le_of_ble_eq_true rfl) (own := RX8) rfl ?_
  intro p e s m below meth c A X hr hlk hnm ls hl hH
  have hx := X.1.1
  have hb := X.1.2.1
  replace hl : lv_has ls 2 [(0, .ref a0), (1, .int a1)] := hl
  obtain ⟨H, hHe⟩ : ∃ H, H = s.heap := ⟨_, rfl⟩
  obtain ⟨locs, hlo⟩ : ∃ locs : List Loc, locs = [] := ⟨_, rfl⟩
  rw [← hHe, ← hlo] at hH
  show W p l e rm_X8_isSet s m [.ref a0, .int a1].toArray below meth c s.heap [] 0 0 _ _
  rw [← hHe, ← hlo]
  refine lv_iload_n hx hb dX8_isSet_0 rfl (lv_at hl 1 rfl) ?_
  refine lv_if_lt (tgt := 19) hx hb dX8_isSet_1 (by decide) (fun c1 => ?_) (fun c1 => ?_)
  · have hf := (if_pos c1).mp hf
    refine lv_iconst (v := 0) hx hb dX8_isSet_19 (by decide) ?_
    exact q_retZ X hH hr hlk hf (Nat.zero_le _) (Nat.zero_le _) dX8_isSet_20
  · have hf := (if_neg c1).mp hf
    refine lv_iload_n hx hb dX8_isSet_4 rfl (lv_at hl 1 rfl) ?_
    refine lv_aload_n hx hb dX8_isSet_5 rfl (lv_at hl 0 rfl) ?_
    obtain ⟨hb1, hb2, hf⟩ := hf
    refine q_backI0 X hH (q_runV [] [.int a1] X hH hl (c_X8_everyone l D cy G X.2.2.2.1 S a0 _ _ hf) mf_X8_everyone mv_X8_everyone tw_1801 ⟨Nat.le_of_ble_eq_true rfl, Nat.le_of_ble_eq_true rfl⟩ hb1 hb2 (T := TX8) (N := 25) rfl rfl (Nat.le_of_ble_eq_true rfl) dX8_isSet_6 ⟨Nat.le_of_ble_eq_true rfl, Nat.le_of_ble_eq_true rfl⟩) (fun v3 S2 hf H locs hH => ?_)
    refine lv_iconst (v := (-1)) hx hb dX8_isSet_9 (by decide) ?_
    refine lv_ixor hx hb dX8_isSet_10 ?_
    refine lv_iand hx hb dX8_isSet_11 ?_
    refine lv_if_ne (tgt := 19) hx hb dX8_isSet_12 (by decide) (fun c4 => ?_) (fun c4 => ?_)
    · have hf := (if_neg c4).mp hf
      refine lv_iconst (v := 0) hx hb dX8_isSet_19 (by decide) ?_
      exact q_retZ X hH hr hlk hf (Nat.zero_le _) (Nat.zero_le _) dX8_isSet_20
    · have hf := (if_pos c4).mp hf
      refine lv_iconst (v := 1) hx hb dX8_isSet_15 (by decide) ?_
      refine lv_goto (tgt := 20) hx hb dX8_isSet_16 (by decide) ?_
      exact q_retZ X hH hr hlk hf (Nat.zero_le _) (Nat.zero_le _) dX8_isSet_20
-- X8_tied
def f_X8_tied_J28 (post : Int32 → PS → Prop) (S : PS) (l0 : Nat) (l1 : Int32) (l2 : Int32) (t0 : Int32) (t1 : Nat) : Prop :=
  isO S t1 12 (
  f_X8_isThere S t1 t0 fun v2 S1 => (
  if v2 = 0 then
    post 0 S1
  else
    isO S1 l0 12 (
    f_X8_tie S1 l0 l1 l2 fun v5 S4 => (
    post v5 S4))))
def f_X8_tied_J27 (post : Int32 → PS → Prop) (S : PS) (l0 : Nat) (l1 : Int32) (l2 : Int32) (t0 : Nat) : Prop :=
  f_X8_tied_J28 post S l0 l1 l2 0 t0
def f_X8_tied (S : PS) (a0 : Nat) (a1 : Int32) (a2 : Int32) (post : Int32 → PS → Prop) : Prop :=
  isO S a0 12 (
  f_X8_isSet S a0 a1 fun v2 S1 => (
  if v2 = 0 then
    f_X8_tied_J27 post S1 a0 a1 a2 a0
  else
    isO S1 a0 12 (
    f_X8_isSet S1 a0 a2 fun v5 S4 => (
    if v5 = 0 then
      f_X8_tied_J27 post S4 a0 a1 a2 a0
    else
      if (a1 &&& a2) = 0 then
        f_X8_tied_J28 post S4 a0 a1 a2 1 a0
      else
        f_X8_tied_J27 post S4 a0 a1 a2 a0))))
abbrev rm_X8_tied : Room := { frames := 2, cells := 0, slots := 0, locals := 47 }
set_option maxHeartbeats 4000000 in
set_option maxRecDepth 100000 in
theorem c_X8_tied (l : Launch) (D : va_G) (cy : Nat → ClassId) (G : p_GT) (hG : p_ok G) (S : PS) (a0 : Nat) (a1 : Int32) (a2 : Int32) (post : Int32 → PS → Prop) (sz : Nat) (hf : f_X8_tied S a0 a1 a2 post) : p_Mi l D cy G S sz yX8_tied (Cond.code yX8_tied cX8_tied 3 (some .int) :: wG) rm_X8_tied [.ref a0, .int a1, .int a2] 0 0 post := by
  refine q_start hG (Qc := fun A => va_Qi post (p_Post D cy A) A) mf_X8_tied (Nat.le_of_ble_eq_true rfl) (own := RX8) rfl ?_
  intro p e s m below meth c A X hr hlk hnm ls hl hH
  have hx := X.1.1
  have hb := X.1.2.1
  replace hl : lv_has ls 3 [(0, .ref a0), (1, .int a1), (2, .int a2)] := hl
  obtain ⟨H, hHe⟩ : ∃ H, H = s.heap := ⟨_, rfl⟩
  obtain ⟨locs, hlo⟩ : ∃ locs : List Loc, locs = [] := ⟨_, rfl⟩
  rw [← hHe, ← hlo] at hH
  show W p l e rm_X8_tied s m [.ref a0, .int a1, .int a2].toArray below meth c s.heap [] 0 0 _ _
  rw [← hHe, ← hlo]
  have hJ28 : ∀ (S : PS) (l0 : Nat) (l1 : Int32) (l2 : Int32) (t0 : Int32) (t1 : Nat), f_X8_tied_J28 post S l0 l1 l2 t0 t1 → ∀ (H : Heap) (locs : List Loc) (ls : Array Slot), p_H D cy S A s H locs → lv_has ls 3 [(0, .ref l0), (1, .int l1), (2, .int l2)] → W p l e rm_X8_tied s m [.ref a0, .int a1, .int a2].toArray below meth c H locs 0 0 (MQ below (va_Qi post (p_Post D cy A) A) [.ref a0, .int a1, .int a2].toArray s 0 0 A) (F0 m 28 ls [.int t0, .ref t1]) := by
    intro S l0 l1 l2 t0 t1 hf H locs ls hH hl
    obtain ⟨hb1, hb2, hf⟩ := hf
    refine q_backI0 X hH (q_runV [.int t0] [] X hH hl (c_X8_isThere l D cy G X.2.2.2.1 S t1 t0 _ _ hf) mf_X8_isThere mv_X8_isThere tw_1868 ⟨Nat.le_of_ble_eq_true rfl, Nat.le_of_ble_eq_true rfl⟩ hb1 hb2 (T := TX8) (N := 25) rfl rfl (Nat.le_of_ble_eq_true rfl) dX8_tied_28 ⟨Nat.le_of_ble_eq_true rfl, Nat.le_of_ble_eq_true rfl⟩) (fun v2 S1 hf H locs hH => ?_)
    refine lv_if_eq (tgt := 43) hx hb dX8_tied_31 (by decide) (fun c3 => ?_) (fun c3 => ?_)
    · have hf := (if_pos c3).mp hf
      refine lv_iconst (v := 0) hx hb dX8_tied_43 (by decide) ?_
      exact q_retI X hH hr hlk hf (Nat.zero_le _) (Nat.zero_le _) dX8_tied_44
    · have hf := (if_neg c3).mp hf
      refine lv_aload_n hx hb dX8_tied_34 rfl (lv_at hl 0 rfl) ?_
      refine lv_iload_n hx hb dX8_tied_35 rfl (lv_at hl 1 rfl) ?_
      refine lv_iload_n hx hb dX8_tied_36 rfl (lv_at hl 2 rfl) ?_
      obtain ⟨hb1, hb2, hf⟩ := hf
      refine q_backI0 X hH (q_runV [.int l1, .int l2] [] X hH hl (c_X8_tie l D cy G X.2.2.2.1 S1 l0 l1 l2 _ _ hf) mf_X8_tie mv_X8_tie tw_1805 ⟨Nat.le_of_ble_eq_true rfl, Nat.le_of_ble_eq_true rfl⟩ hb1 hb2 (T := TX8) (N := 25) rfl rfl (Nat.le_of_ble_eq_true rfl) dX8_tied_37 ⟨Nat.le_of_ble_eq_true rfl, Nat.le_of_ble_eq_true rfl⟩) (fun v5 S4 hf H locs hH => ?_)
      refine lv_goto (tgt := 44) hx hb dX8_tied_40 (by decide) ?_
      exact q_retI X hH hr hlk hf (Nat.zero_le _) (Nat.zero_le _) dX8_tied_44
  have hJ27 : ∀ (S : PS) (l0 : Nat) (l1 : Int32) (l2 : Int32) (t0 : Nat), f_X8_tied_J27 post S l0 l1 l2 t0 → ∀ (H : Heap) (locs : List Loc) (ls : Array Slot), p_H D cy S A s H locs → lv_has ls 3 [(0, .ref l0), (1, .int l1), (2, .int l2)] → W p l e rm_X8_tied s m [.ref a0, .int a1, .int a2].toArray below meth c H locs 0 0 (MQ below (va_Qi post (p_Post D cy A) A) [.ref a0, .int a1, .int a2].toArray s 0 0 A) (F0 m 27 ls [.ref t0]) := by
    intro S l0 l1 l2 t0 hf H locs ls hH hl
    refine lv_iconst (v := 0) hx hb dX8_tied_27 (by decide) ?_
    exact hJ28 S l0 l1 l2 0 t0 hf H locs ls hH hl
  refine lv_aload_n hx hb dX8_tied_0 rfl (lv_at hl 0 rfl) ?_
  refine lv_aload_n hx hb dX8_tied_1 rfl (lv_at hl 0 rfl) ?_
  refine lv_iload_n hx hb dX8_tied_2 rfl (lv_at hl 1 rfl) ?_
  obtain ⟨hb1, hb2, hf⟩ := hf
  refine q_backI0 X hH (q_runV [.int a1] [.ref a0] X hH hl (c_X8_isSet l D cy G X.2.2.2.1 S a0 a1 _ _ hf) mf_X8_isSet mv_X8_isSet tw_1922 ⟨Nat.le_of_ble_eq_true rfl, Nat.le_of_ble_eq_true rfl⟩ hb1 hb2 (T := TX8) (N := 25) rfl rfl (Nat.le_of_ble_eq_true rfl) dX8_tied_3 ⟨Nat.le_of_ble_eq_true rfl, Nat.le_of_ble_eq_true rfl⟩) (fun v2 S1 hf H locs hH => ?_)
  refine lv_if_eq (tgt := 27) hx hb dX8_tied_6 (by decide) (fun c3 => ?_) (fun c3 => ?_)
  · have hf := (if_pos c3).mp hf
    exact hJ27 S1 a0 a1 a2 a0 hf H locs ls hH hl
  · have hf := (if_neg c3).mp hf
    refine lv_aload_n hx hb dX8_tied_9 rfl (lv_at hl 0 rfl) ?_
    refine lv_iload_n hx hb dX8_tied_10 rfl (lv_at hl 2 rfl) ?_
    obtain ⟨hb1, hb2, hf⟩ := hf
    refine q_backI0 X hH (q_runV [.int a2] [.ref a0] X hH hl (c_X8_isSet l D cy G X.2.2.2.1 S1 a0 a2 _ _ hf) mf_X8_isSet mv_X8_isSet tw_1922 ⟨Nat.le_of_ble_eq_true rfl, Nat.le_of_ble_eq_true rfl⟩ hb1 hb2 (T := TX8) (N := 25) rfl rfl (Nat.le_of_ble_eq_true rfl) dX8_tied_11 ⟨Nat.le_of_ble_eq_true rfl, Nat.le_of_ble_eq_true rfl⟩) (fun v5 S4 hf H locs hH => ?_)
    refine lv_if_eq (tgt := 27) hx hb dX8_tied_14 (by decide) (fun c6 => ?_) (fun c6 => ?_)
    · have hf := (if_pos c6).mp hf
      exact hJ27 S4 a0 a1 a2 a0 hf H locs ls hH hl
    · have hf := (if_neg c6).mp hf
      refine lv_iload_n hx hb dX8_tied_17 rfl (lv_at hl 1 rfl) ?_
      refine lv_iload_n hx hb dX8_tied_18 rfl (lv_at hl 2 rfl) ?_
      refine lv_iand hx hb dX8_tied_19 ?_
      refine lv_if_ne (tgt := 27) hx hb dX8_tied_20 (by decide) (fun c7 => ?_) (fun c7 => ?_)
      · have hf := (if_neg c7).mp hf
        exact hJ27 S4 a0 a1 a2 a0 hf H locs ls hH hl
      · have hf := (if_pos c7).mp hf
        refine lv_iconst (v := 1) hx hb dX8_tied_23 (by decide) ?_
        refine lv_goto (tgt := 28) hx hb dX8_tied_24 (by decide) ?_
        exact hJ28 S4 a0 a1 a2 1 a0 hf H locs ls hH hl
-- X8_feud
def f_X8_feud (S : PS) (a0 : Nat) (post : Int32 → PS → Prop) : Prop :=
  pV S a0 12 0 (.int 0) fun S1 => (
  isO S1 a0 12 (
  f_X8_sideSet S1 a0 fun v3 S2 => (
  isO S2 a0 12 (
  f_X8_feudOf S2 a0 v3 fun v5 S4 => (
  post v5 S4)))))
abbrev rm_X8_feud : Room := { frames := 3, cells := 0, slots := 0, locals := 68 }
set_option maxHeartbeats 4000000 in
set_option maxRecDepth 100000 in
theorem c_X8_feud (l : Launch) (D : va_G) (cy : Nat → ClassId) (G : p_GT) (hG : p_ok G) (S : PS) (a0 : Nat) (post : Int32 → PS → Prop) (sz : Nat) (hf : f_X8_feud S a0 post) : p_Mi l D cy G S sz yX8_feud (Cond.code yX8_feud cX8_feud 1 (some .int) :: wG) rm_X8_feud [.ref a0] 0 0 post := by
  refine q_start hG (Qc := fun A => va_Qi post (p_Post D cy A) A) mf_X8_feud (Nat.le_of_ble_eq_true rfl) (own := RX8) rfl ?_
  intro p e s m below meth c A X hr hlk hnm ls hl hH
  have hx := X.1.1
  have hb := X.1.2.1
  replace hl : lv_has ls 1 [(0, .ref a0)] := hl
  obtain ⟨H, hHe⟩ : ∃ H, H = s.heap := ⟨_, rfl⟩
  obtain ⟨locs, hlo⟩ : ∃ locs : List Loc, locs = [] := ⟨_, rfl⟩
  rw [← hHe, ← hlo] at hH
  show W p l e rm_X8_feud s m [.ref a0].toArray below meth c s.heap [] 0 0 _ _
  rw [← hHe, ← hlo]
  refine lv_aload_n hx hb dX8_feud_0 rfl (lv_at hl 0 rfl) ?_
  refine lv_iconst (v := 0) hx hb dX8_feud_1 (by decide) ?_
  refine q_putV (T := TX8) (N := 25) (ty0 := tyX8) (ty := tyX8 0) X hH hf iw_X8 tyX8_ok nmX8 rfl (by decide) tw_1609 (fun _ h => h) rfl (tyX8_ok 0 (by decide)) rfl rfl dX8_feud_2 (fun S1 hf H locs hH => ?_)
  refine lv_aload_n hx hb dX8_feud_5 rfl (lv_at hl 0 rfl) ?_
  refine lv_aload_n hx hb dX8_feud_6 rfl (lv_at hl 0 rfl) ?_
  obtain ⟨hb1, hb2, hf⟩ := hf
  refine q_backI0 X hH (q_runV [] [.ref a0] X hH hl (c_X8_sideSet l D cy G X.2.2.2.1 S1 a0 _ _ hf) mf_X8_sideSet mv_X8_sideSet tw_1793 ⟨Nat.le_of_ble_eq_true rfl, Nat.le_of_ble_eq_true rfl⟩ hb1 hb2 (T := TX8) (N := 25) rfl rfl (Nat.le_of_ble_eq_true rfl) dX8_feud_7 ⟨Nat.le_of_ble_eq_true rfl, Nat.le_of_ble_eq_true rfl⟩) (fun v3 S2 hf H locs hH => ?_)
  obtain ⟨hb1, hb2, hf⟩ := hf
  refine q_backI0 X hH (q_runV [.int v3] [] X hH hl (c_X8_feudOf l D cy G X.2.2.2.1 S2 a0 v3 _ _ hf) mf_X8_feudOf mv_X8_feudOf tw_1797 ⟨Nat.le_of_ble_eq_true rfl, Nat.le_of_ble_eq_true rfl⟩ hb1 hb2 (T := TX8) (N := 25) rfl rfl (Nat.le_of_ble_eq_true rfl) dX8_feud_10 ⟨Nat.le_of_ble_eq_true rfl, Nat.le_of_ble_eq_true rfl⟩) (fun v5 S4 hf H locs hH => ?_)
  exact q_retI X hH hr hlk hf (Nat.zero_le _) (Nat.zero_le _) dX8_feud_13
-- X8_feudAgain
def f_X8_feudAgain (S : PS) (a0 : Nat) (post : Int32 → PS → Prop) : Prop :=
  isO S a0 12 (
  f_X8_feud S a0 fun v2 S1 => (
  post v2 S1))
abbrev rm_X8_feudAgain : Room := { frames := 4, cells := 0, slots := 0, locals := 88 }
set_option maxHeartbeats 4000000 in
set_option maxRecDepth 100000 in
theorem c_X8_feudAgain (l : Launch) (D : va_G) (cy : Nat → ClassId) (G : p_GT) (hG : p_ok G) (S : PS) (a0 : Nat) (post : Int32 → PS → Prop) (sz : Nat) (hf : f_X8_feudAgain S a0 post) : p_Mi l D cy G S sz yX8_feudAgain (Cond.code yX8_feudAgain cX8_feudAgain 1 (some .int) :: wG) rm_X8_feudAgain [.ref a0] 0 0 post := by
  refine q_start hG (Qc := fun A => va_Qi post (p_Post D cy A) A) mf_X8_feudAgain (Nat.le_of_ble_eq_true rfl) (own := RX8) rfl ?_
  intro p e s m below meth c A X hr hlk hnm ls hl hH
  have hx := X.1.1
  have hb := X.1.2.1
  replace hl : lv_has ls 1 [(0, .ref a0)] := hl
  obtain ⟨H, hHe⟩ : ∃ H, H = s.heap := ⟨_, rfl⟩
  obtain ⟨locs, hlo⟩ : ∃ locs : List Loc, locs = [] := ⟨_, rfl⟩
  rw [← hHe, ← hlo] at hH
  show W p l e rm_X8_feudAgain s m [.ref a0].toArray below meth c s.heap [] 0 0 _ _
  rw [← hHe, ← hlo]
  refine lv_aload_n hx hb dX8_feudAgain_0 rfl (lv_at hl 0 rfl) ?_
  obtain ⟨hb1, hb2, hf⟩ := hf
  refine q_backI0 X hH (q_runV [] [] X hH hl (c_X8_feud l D cy G X.2.2.2.1 S a0 _ _ hf) mf_X8_feud mv_X8_feud tw_1934 ⟨Nat.le_of_ble_eq_true rfl, Nat.le_of_ble_eq_true rfl⟩ hb1 hb2 (T := TX8) (N := 25) rfl rfl (Nat.le_of_ble_eq_true rfl) dX8_feudAgain_1 ⟨Nat.le_of_ble_eq_true rfl, Nat.le_of_ble_eq_true rfl⟩) (fun v2 S1 hf H locs hH => ?_)
  exact q_retI X hH hr hlk hf (Nat.zero_le _) (Nat.zero_le _) dX8_feudAgain_4
-- X8_ifMoved
def f_X8_ifMoved (S : PS) (a0 : Nat) (a1 : Int32) (post : Int32 → PS → Prop) : Prop :=
  isO S a0 12 (
  f_X8_isHouse S a0 a1 fun v2 S1 => (
  isO S1 a0 12 (
  f_X8_isThere S1 a0 v2 fun v4 S3 => (
  if v4 = 0 then
    post 0 S3
  else
    isO S3 a0 12 (
    f_X8_sideSet S3 a0 fun v7 S6 => (
    isO S6 a0 12 (
    f_X8_feudOf S6 a0 (v7 ^^^ ((1 : Int32) <<< (a1 &&& 31))) fun v9 S8 => (
    post v9 S8))))))))
abbrev rm_X8_ifMoved : Room := { frames := 3, cells := 0, slots := 0, locals := 68 }
set_option maxHeartbeats 4000000 in
set_option maxRecDepth 100000 in
theorem c_X8_ifMoved (l : Launch) (D : va_G) (cy : Nat → ClassId) (G : p_GT) (hG : p_ok G) (S : PS) (a0 : Nat) (a1 : Int32) (post : Int32 → PS → Prop) (sz : Nat) (hf : f_X8_ifMoved S a0 a1 post) : p_Mi l D cy G S sz yX8_ifMoved (Cond.code yX8_ifMoved cX8_ifMoved 2 (some .int) :: wG) rm_X8_ifMoved [.ref a0, .int a1] 0 0 post := by
  refine q_start hG (Qc := fun A => va_Qi post (p_Post D cy A) A) mf_X8_ifMoved (Nat.le_of_ble_eq_true rfl) (own := RX8) rfl ?_
  intro p e s m below meth c A X hr hlk hnm ls hl hH
  have hx := X.1.1
  have hb := X.1.2.1
  replace hl : lv_has ls 2 [(0, .ref a0), (1, .int a1)] := hl
  obtain ⟨H, hHe⟩ : ∃ H, H = s.heap := ⟨_, rfl⟩
  obtain ⟨locs, hlo⟩ : ∃ locs : List Loc, locs = [] := ⟨_, rfl⟩
  rw [← hHe, ← hlo] at hH
  show W p l e rm_X8_ifMoved s m [.ref a0, .int a1].toArray below meth c s.heap [] 0 0 _ _
  rw [← hHe, ← hlo]
  refine lv_aload_n hx hb dX8_ifMoved_0 rfl (lv_at hl 0 rfl) ?_
  refine lv_aload_n hx hb dX8_ifMoved_1 rfl (lv_at hl 0 rfl) ?_
  refine lv_iload_n hx hb dX8_ifMoved_2 rfl (lv_at hl 1 rfl) ?_
  obtain ⟨hb1, hb2, hf⟩ := hf
  refine q_backI0 X hH (q_runV [.int a1] [.ref a0] X hH hl (c_X8_isHouse l D cy G X.2.2.2.1 S a0 a1 _ _ hf) mf_X8_isHouse mv_X8_isHouse tw_1737 ⟨Nat.le_of_ble_eq_true rfl, Nat.le_of_ble_eq_true rfl⟩ hb1 hb2 (T := TX8) (N := 25) rfl rfl (Nat.le_of_ble_eq_true rfl) dX8_ifMoved_3 ⟨Nat.le_of_ble_eq_true rfl, Nat.le_of_ble_eq_true rfl⟩) (fun v2 S1 hf H locs hH => ?_)
  obtain ⟨hb1, hb2, hf⟩ := hf
  refine q_backI0 X hH (q_runV [.int v2] [] X hH hl (c_X8_isThere l D cy G X.2.2.2.1 S1 a0 v2 _ _ hf) mf_X8_isThere mv_X8_isThere tw_1868 ⟨Nat.le_of_ble_eq_true rfl, Nat.le_of_ble_eq_true rfl⟩ hb1 hb2 (T := TX8) (N := 25) rfl rfl (Nat.le_of_ble_eq_true rfl) dX8_ifMoved_6 ⟨Nat.le_of_ble_eq_true rfl, Nat.le_of_ble_eq_true rfl⟩) (fun v4 S3 hf H locs hH => ?_)
  refine lv_if_eq (tgt := 27) hx hb dX8_ifMoved_9 (by decide) (fun c5 => ?_) (fun c5 => ?_)
  · have hf := (if_pos c5).mp hf
    refine lv_iconst (v := 0) hx hb dX8_ifMoved_27 (by decide) ?_
    exact q_retI X hH hr hlk hf (Nat.zero_le _) (Nat.zero_le _) dX8_ifMoved_28
  · have hf := (if_neg c5).mp hf
    refine lv_aload_n hx hb dX8_ifMoved_12 rfl (lv_at hl 0 rfl) ?_
    refine lv_aload_n hx hb dX8_ifMoved_13 rfl (lv_at hl 0 rfl) ?_
    obtain ⟨hb1, hb2, hf⟩ := hf
    refine q_backI0 X hH (q_runV [] [.ref a0] X hH hl (c_X8_sideSet l D cy G X.2.2.2.1 S3 a0 _ _ hf) mf_X8_sideSet mv_X8_sideSet tw_1793 ⟨Nat.le_of_ble_eq_true rfl, Nat.le_of_ble_eq_true rfl⟩ hb1 hb2 (T := TX8) (N := 25) rfl rfl (Nat.le_of_ble_eq_true rfl) dX8_ifMoved_14 ⟨Nat.le_of_ble_eq_true rfl, Nat.le_of_ble_eq_true rfl⟩) (fun v7 S6 hf H locs hH => ?_)
    refine lv_iconst (v := 1) hx hb dX8_ifMoved_17 (by decide) ?_
    refine lv_iload_n hx hb dX8_ifMoved_18 rfl (lv_at hl 1 rfl) ?_
    refine lv_ishl hx hb dX8_ifMoved_19 ?_
    refine lv_ixor hx hb dX8_ifMoved_20 ?_
    obtain ⟨hb1, hb2, hf⟩ := hf
    refine q_backI0 X hH (q_runV [.int (v7 ^^^ ((1 : Int32) <<< (a1 &&& 31)))] [] X hH hl (c_X8_feudOf l D cy G X.2.2.2.1 S6 a0 (v7 ^^^ ((1 : Int32) <<< (a1 &&& 31))) _ _ hf) mf_X8_feudOf mv_X8_feudOf tw_1797 ⟨Nat.le_of_ble_eq_true rfl, Nat.le_of_ble_eq_true rfl⟩ hb1 hb2 (T := TX8) (N := 25) rfl rfl (Nat.le_of_ble_eq_true rfl) dX8_ifMoved_21 ⟨Nat.le_of_ble_eq_true rfl, Nat.le_of_ble_eq_true rfl⟩) (fun v9 S8 hf H locs hH => ?_)
    refine lv_goto (tgt := 28) hx hb dX8_ifMoved_24 (by decide) ?_
    exact q_retI X hH hr hlk hf (Nat.zero_le _) (Nat.zero_le _) dX8_ifMoved_28
-- X8_bestMove
def f_X8_bestMove_J69 (post : Int32 → PS → Prop) (g27 : PS → Nat → Int32 → Int32 → Prop) (S : PS) (l0 : Nat) (l2 : Int32) (t0 : Int32) : Prop :=
  g27 S l0 t0 (l2 + 1)
def f_X8_bestMove_L27 (post : Int32 → PS → Prop) : Nat → PS → Nat → Int32 → Int32 → Prop
  | 0, _, _, _, _ => False
  | n + 1, S, l0, l1, l2 =>
  gR S l0 12 1 fun v1 => (
  aI S v1 0 0 fun v2 => (
  if v2 ≤ l2 then
    post l1 S
  else
    isO S l0 12 (
    f_X8_sideSet S l0 fun v5 S4 => (
    isO S4 l0 12 (
    f_X8_feudOf S4 l0 (v5 ^^^ ((1 : Int32) <<< (l2 &&& 31))) fun v7 S6 => (
    isO S6 l0 12 (
    f_X8_sideSet S6 l0 fun v9 S8 => (
    isO S8 l0 12 (
    f_X8_feudOf S8 l0 (v9 ^^^ ((1 : Int32) <<< (l1 &&& 31))) fun v11 S10 => (
    if v11 ≤ v7 then
      f_X8_bestMove_J69 post (f_X8_bestMove_L27 post n) S10 l0 l2 l1
    else
      f_X8_bestMove_J69 post (f_X8_bestMove_L27 post n) S10 l0 l2 l2))))))))))
def f_X8_bestMove_J15 (post : Int32 → PS → Prop) (S : PS) (l0 : Nat) (t0 : Int32) (t1 : Nat) : Prop :=
  isO S t1 12 (
  f_X8_isThere S t1 t0 fun v2 S1 => (
  if v2 = 0 then
    post 0 S1
  else
    f_X8_bestMove_L27 post 4096 S1 l0 0 1))
def f_X8_bestMove (S : PS) (a0 : Nat) (post : Int32 → PS → Prop) : Prop :=
  gR S a0 12 1 fun v1 => (
  aI S v1 0 0 fun v2 => (
  if v2 ≤ 0 then
    f_X8_bestMove_J15 post S a0 0 a0
  else
    f_X8_bestMove_J15 post S a0 1 a0))
abbrev rm_X8_bestMove : Room := { frames := 3, cells := 0, slots := 0, locals := 68 }
set_option maxHeartbeats 4000000 in
set_option maxRecDepth 100000 in
theorem c_X8_bestMove (l : Launch) (D : va_G) (cy : Nat → ClassId) (G : p_GT) (hG : p_ok G) (S : PS) (a0 : Nat) (post : Int32 → PS → Prop) (sz : Nat) (hf : f_X8_bestMove S a0 post) : p_Mi l D cy G S sz yX8_bestMove (Cond.code yX8_bestMove cX8_bestMove 3 (some .int) :: wG) rm_X8_bestMove [.ref a0] 0 0 post := by
  refine q_start hG (Qc := fun A => va_Qi post (p_Post D cy A) A) mf_X8_bestMove (Nat.le_of_ble_eq_true rfl) (own := RX8) rfl ?_
  intro p e s m below meth c A X hr hlk hnm ls hl hH
  have hx := X.1.1
  have hb := X.1.2.1
  replace hl : lv_has ls 3 [(0, .ref a0)] := hl
  obtain ⟨H, hHe⟩ : ∃ H, H = s.heap := ⟨_, rfl⟩
  obtain ⟨locs, hlo⟩ : ∃ locs : List Loc, locs = [] := ⟨_, rfl⟩
  rw [← hHe, ← hlo] at hH
  show W p l e rm_X8_bestMove s m [.ref a0].toArray below meth c s.heap [] 0 0 _ _
  rw [← hHe, ← hlo]
  have hJ15 : ∀ (S : PS) (l0 : Nat) (t0 : Int32) (t1 : Nat), f_X8_bestMove_J15 post S l0 t0 t1 → ∀ (H : Heap) (locs : List Loc) (ls : Array Slot), p_H D cy S A s H locs → lv_has ls 3 [(0, .ref l0)] → W p l e rm_X8_bestMove s m [.ref a0].toArray below meth c H locs 0 0 (MQ below (va_Qi post (p_Post D cy A) A) [.ref a0].toArray s 0 0 A) (F0 m 15 ls [.int t0, .ref t1]) := by
    intro S l0 t0 t1 hf H locs ls hH hl
    have hL27 : ∀ (n27 : Nat) (S : PS) (l0 : Nat) (l1 : Int32) (l2 : Int32), f_X8_bestMove_L27 post n27 S l0 l1 l2 → ∀ (H : Heap) (locs : List Loc) (ls : Array Slot), p_H D cy S A s H locs → lv_has ls 3 [(0, .ref l0), (1, .int l1), (2, .int l2)] → W p l e rm_X8_bestMove s m [.ref a0].toArray below meth c H locs 0 0 (MQ below (va_Qi post (p_Post D cy A) A) [.ref a0].toArray s 0 0 A) (F0 m 27 ls []) := by
      intro n27
      induction n27 with
      | zero => intro S l0 l1 l2 hf; exact hf.elim
      | succ n27 ih27 =>
        intro S l0 l1 l2 hf H locs ls hH hl
        have hJ69 : ∀ (S : PS) (l0 : Nat) (l2 : Int32) (t0 : Int32), f_X8_bestMove_J69 post (f_X8_bestMove_L27 post n27) S l0 l2 t0 → ∀ (H : Heap) (locs : List Loc) (ls : Array Slot), p_H D cy S A s H locs → lv_has ls 3 [(0, .ref l0), (2, .int l2)] → W p l e rm_X8_bestMove s m [.ref a0].toArray below meth c H locs 0 0 (MQ below (va_Qi post (p_Post D cy A) A) [.ref a0].toArray s 0 0 A) (F0 m 69 ls [.int t0]) := by
          intro S l0 l2 t0 hf H locs ls hH hl
          refine lv_istore_n (lv' := [(1, .int t0), (0, .ref l0), (2, .int l2)]) hx hb dX8_bestMove_69 rfl hl (by decide) rfl (fun ls hl => ?_)
          refine lv_iinc (v := l2 + 1) (lv' := [(2, .int (l2 + 1)), (1, .int t0), (0, .ref l0)]) hx hb dX8_bestMove_70 hl (k := 2) rfl rfl (by decide) rfl (fun ls hl => ?_)
          refine lv_goto (tgt := 27) hx hb dX8_bestMove_73 (by decide) ?_
          exact ih27 S l0 t0 (l2 + 1) hf H locs ls hH (lv_sub hl [2, 1, 0] rfl)
        refine lv_iload_n hx hb dX8_bestMove_27 rfl (lv_at hl 2 rfl) ?_
        refine lv_aload_n hx hb dX8_bestMove_28 rfl (lv_at hl 0 rfl) ?_
        refine q_getR (T := TX8) (N := 25) X hH hf iw_X8 rfl (by decide) tw_1610 (fun _ h => h) dX8_bestMove_29 (fun v1 hf => ?_)
        refine lv_iconst (v := 0) hx hb dX8_bestMove_32 (by decide) ?_
        refine q_iald X hH hf dX8_bestMove_33 (fun v2 hf => ?_)
        refine lv_icmp_ge (tgt := 76) hx hb dX8_bestMove_34 (by decide) (fun c3 => ?_) (fun c3 => ?_)
        · have hf := (if_pos c3).mp hf
          refine lv_iload_n hx hb dX8_bestMove_76 rfl (lv_at hl 1 rfl) ?_
          exact q_retI X hH hr hlk hf (Nat.zero_le _) (Nat.zero_le _) dX8_bestMove_77
        · have hf := (if_neg c3).mp hf
          refine lv_aload_n hx hb dX8_bestMove_37 rfl (lv_at hl 0 rfl) ?_
          refine lv_aload_n hx hb dX8_bestMove_38 rfl (lv_at hl 0 rfl) ?_
          obtain ⟨hb1, hb2, hf⟩ := hf
          refine q_backI0 X hH (q_runV [] [.ref l0] X hH hl (c_X8_sideSet l D cy G X.2.2.2.1 S l0 _ _ hf) mf_X8_sideSet mv_X8_sideSet tw_1793 ⟨Nat.le_of_ble_eq_true rfl, Nat.le_of_ble_eq_true rfl⟩ hb1 hb2 (T := TX8) (N := 25) rfl rfl (Nat.le_of_ble_eq_true rfl) dX8_bestMove_39 ⟨Nat.le_of_ble_eq_true rfl, Nat.le_of_ble_eq_true rfl⟩) (fun v5 S4 hf H locs hH => ?_)
          refine lv_iconst (v := 1) hx hb dX8_bestMove_42 (by decide) ?_
          refine lv_iload_n hx hb dX8_bestMove_43 rfl (lv_at hl 2 rfl) ?_
          refine lv_ishl hx hb dX8_bestMove_44 ?_
          refine lv_ixor hx hb dX8_bestMove_45 ?_
          obtain ⟨hb1, hb2, hf⟩ := hf
          refine q_backI0 X hH (q_runV [.int (v5 ^^^ ((1 : Int32) <<< (l2 &&& 31)))] [] X hH hl (c_X8_feudOf l D cy G X.2.2.2.1 S4 l0 (v5 ^^^ ((1 : Int32) <<< (l2 &&& 31))) _ _ hf) mf_X8_feudOf mv_X8_feudOf tw_1797 ⟨Nat.le_of_ble_eq_true rfl, Nat.le_of_ble_eq_true rfl⟩ hb1 hb2 (T := TX8) (N := 25) rfl rfl (Nat.le_of_ble_eq_true rfl) dX8_bestMove_46 ⟨Nat.le_of_ble_eq_true rfl, Nat.le_of_ble_eq_true rfl⟩) (fun v7 S6 hf H locs hH => ?_)
          refine lv_aload_n hx hb dX8_bestMove_49 rfl (lv_at hl 0 rfl) ?_
          refine lv_aload_n hx hb dX8_bestMove_50 rfl (lv_at hl 0 rfl) ?_
          obtain ⟨hb1, hb2, hf⟩ := hf
          refine q_backI0 X hH (q_runV [] [.ref l0, .int v7] X hH hl (c_X8_sideSet l D cy G X.2.2.2.1 S6 l0 _ _ hf) mf_X8_sideSet mv_X8_sideSet tw_1793 ⟨Nat.le_of_ble_eq_true rfl, Nat.le_of_ble_eq_true rfl⟩ hb1 hb2 (T := TX8) (N := 25) rfl rfl (Nat.le_of_ble_eq_true rfl) dX8_bestMove_51 ⟨Nat.le_of_ble_eq_true rfl, Nat.le_of_ble_eq_true rfl⟩) (fun v9 S8 hf H locs hH => ?_)
          refine lv_iconst (v := 1) hx hb dX8_bestMove_54 (by decide) ?_
          refine lv_iload_n hx hb dX8_bestMove_55 rfl (lv_at hl 1 rfl) ?_
          refine lv_ishl hx hb dX8_bestMove_56 ?_
          refine lv_ixor hx hb dX8_bestMove_57 ?_
          obtain ⟨hb1, hb2, hf⟩ := hf
          refine q_backI0 X hH (q_runV [.int (v9 ^^^ ((1 : Int32) <<< (l1 &&& 31)))] [.int v7] X hH hl (c_X8_feudOf l D cy G X.2.2.2.1 S8 l0 (v9 ^^^ ((1 : Int32) <<< (l1 &&& 31))) _ _ hf) mf_X8_feudOf mv_X8_feudOf tw_1797 ⟨Nat.le_of_ble_eq_true rfl, Nat.le_of_ble_eq_true rfl⟩ hb1 hb2 (T := TX8) (N := 25) rfl rfl (Nat.le_of_ble_eq_true rfl) dX8_bestMove_58 ⟨Nat.le_of_ble_eq_true rfl, Nat.le_of_ble_eq_true rfl⟩) (fun v11 S10 hf H locs hH => ?_)
          refine lv_icmp_ge (tgt := 68) hx hb dX8_bestMove_61 (by decide) (fun c12 => ?_) (fun c12 => ?_)
          · have hf := (if_pos c12).mp hf
            refine lv_iload_n hx hb dX8_bestMove_68 rfl (lv_at hl 1 rfl) ?_
            exact hJ69 S10 l0 l2 l1 hf H locs ls hH (lv_sub hl [0, 2] rfl)
          · have hf := (if_neg c12).mp hf
            refine lv_iload_n hx hb dX8_bestMove_64 rfl (lv_at hl 2 rfl) ?_
            refine lv_goto (tgt := 69) hx hb dX8_bestMove_65 (by decide) ?_
            exact hJ69 S10 l0 l2 l2 hf H locs ls hH (lv_sub hl [0, 2] rfl)
    obtain ⟨hb1, hb2, hf⟩ := hf
    refine q_backI0 X hH (q_runV [.int t0] [] X hH hl (c_X8_isThere l D cy G X.2.2.2.1 S t1 t0 _ _ hf) mf_X8_isThere mv_X8_isThere tw_1868 ⟨Nat.le_of_ble_eq_true rfl, Nat.le_of_ble_eq_true rfl⟩ hb1 hb2 (T := TX8) (N := 25) rfl rfl (Nat.le_of_ble_eq_true rfl) dX8_bestMove_15 ⟨Nat.le_of_ble_eq_true rfl, Nat.le_of_ble_eq_true rfl⟩) (fun v2 S1 hf H locs hH => ?_)
    refine lv_if_ne (tgt := 23) hx hb dX8_bestMove_18 (by decide) (fun c3 => ?_) (fun c3 => ?_)
    · have hf := (if_neg c3).mp hf
      refine lv_iconst (v := 0) hx hb dX8_bestMove_23 (by decide) ?_
      refine lv_istore_n (lv' := [(1, .int 0), (0, .ref l0)]) hx hb dX8_bestMove_24 rfl hl (by decide) rfl (fun ls hl => ?_)
      refine lv_iconst (v := 1) hx hb dX8_bestMove_25 (by decide) ?_
      refine lv_istore_n (lv' := [(2, .int 1), (1, .int 0), (0, .ref l0)]) hx hb dX8_bestMove_26 rfl hl (by decide) rfl (fun ls hl => ?_)
      exact hL27 4096 S1 l0 0 1 hf H locs ls hH (lv_sub hl [2, 1, 0] rfl)
    · have hf := (if_pos c3).mp hf
      refine lv_iconst (v := 0) hx hb dX8_bestMove_21 (by decide) ?_
      exact q_retI X hH hr hlk hf (Nat.zero_le _) (Nat.zero_le _) dX8_bestMove_22
  refine lv_aload_n hx hb dX8_bestMove_0 rfl (lv_at hl 0 rfl) ?_
  refine lv_aload_n hx hb dX8_bestMove_1 rfl (lv_at hl 0 rfl) ?_
  refine q_getR (T := TX8) (N := 25) X hH hf iw_X8 rfl (by decide) tw_1610 (fun _ h => h) dX8_bestMove_2 (fun v1 hf => ?_)
  refine lv_iconst (v := 0) hx hb dX8_bestMove_5 (by decide) ?_
  refine q_iald X hH hf dX8_bestMove_6 (fun v2 hf => ?_)
  refine lv_if_le (tgt := 14) hx hb dX8_bestMove_7 (by decide) (fun c3 => ?_) (fun c3 => ?_)
  · have hf := (if_pos c3).mp hf
    refine lv_iconst (v := 0) hx hb dX8_bestMove_14 (by decide) ?_
    exact hJ15 S a0 0 a0 hf H locs ls hH hl
  · have hf := (if_neg c3).mp hf
    refine lv_iconst (v := 1) hx hb dX8_bestMove_10 (by decide) ?_
    refine lv_goto (tgt := 15) hx hb dX8_bestMove_11 (by decide) ?_
    exact hJ15 S a0 1 a0 hf H locs ls hH hl
-- X8_leastWith
def f_X8_leastWith (S : PS) (a0 : Nat) (a1 : Int32) (a2 : Int32) (a3 : Int32) (post : Int32 → PS → Prop) : Prop :=
  isO S a0 12 (
  f_X8_w S a0 a1 a2 fun v2 S1 => (
  isO S1 a0 12 (
  f_X8_setBond S1 a0 a1 a2 a3 fun S3 => (
  isO S3 a0 12 (
  f_X8_leastNow S3 a0 fun v6 S5 => (
  isO S5 a0 12 (
  f_X8_setBond S5 a0 a1 a2 v2 fun S7 => (
  post v6 S7))))))))
abbrev rm_X8_leastWith : Room := { frames := 5, cells := 0, slots := 0, locals := 117 }
set_option maxHeartbeats 4000000 in
set_option maxRecDepth 100000 in
theorem c_X8_leastWith (l : Launch) (D : va_G) (cy : Nat → ClassId) (G : p_GT) (hG : p_ok G) (S : PS) (a0 : Nat) (a1 : Int32) (a2 : Int32) (a3 : Int32) (post : Int32 → PS → Prop) (sz : Nat) (hf : f_X8_leastWith S a0 a1 a2 a3 post) : p_Mi l D cy G S sz yX8_leastWith (Cond.code yX8_leastWith cX8_leastWith 6 (some .int) :: wG) rm_X8_leastWith [.ref a0, .int a1, .int a2, .int a3] 0 0 post := by
  refine q_start hG (Qc := fun A => va_Qi post (p_Post D cy A) A) mf_X8_leastWith (Nat.le_of_ble_eq_true rfl) (own := RX8) rfl ?_
  intro p e s m below meth c A X hr hlk hnm ls hl hH
  have hx := X.1.1
  have hb := X.1.2.1
  replace hl : lv_has ls 6 [(0, .ref a0), (1, .int a1), (2, .int a2), (3, .int a3)] := hl
  obtain ⟨H, hHe⟩ : ∃ H, H = s.heap := ⟨_, rfl⟩
  obtain ⟨locs, hlo⟩ : ∃ locs : List Loc, locs = [] := ⟨_, rfl⟩
  rw [← hHe, ← hlo] at hH
  show W p l e rm_X8_leastWith s m [.ref a0, .int a1, .int a2, .int a3].toArray below meth c s.heap [] 0 0 _ _
  rw [← hHe, ← hlo]
  refine lv_aload_n hx hb dX8_leastWith_0 rfl (lv_at hl 0 rfl) ?_
  refine lv_iload_n hx hb dX8_leastWith_1 rfl (lv_at hl 1 rfl) ?_
  refine lv_iload_n hx hb dX8_leastWith_2 rfl (lv_at hl 2 rfl) ?_
  obtain ⟨hb1, hb2, hf⟩ := hf
  refine q_backI0 X hH (q_runV [.int a1, .int a2] [] X hH hl (c_X8_w l D cy G X.2.2.2.1 S a0 a1 a2 _ _ hf) mf_X8_w mv_X8_w tw_1745 ⟨Nat.le_of_ble_eq_true rfl, Nat.le_of_ble_eq_true rfl⟩ hb1 hb2 (T := TX8) (N := 25) rfl rfl (Nat.le_of_ble_eq_true rfl) dX8_leastWith_3 ⟨Nat.le_of_ble_eq_true rfl, Nat.le_of_ble_eq_true rfl⟩) (fun v2 S1 hf H locs hH => ?_)
  refine lv_istore (lv' := [(4, .int v2), (0, .ref a0), (1, .int a1), (2, .int a2), (3, .int a3)]) hx hb dX8_leastWith_6 hl (by decide) rfl (fun ls hl => ?_)
  refine lv_aload_n hx hb dX8_leastWith_8 rfl (lv_at hl 1 rfl) ?_
  refine lv_iload_n hx hb dX8_leastWith_9 rfl (lv_at hl 2 rfl) ?_
  refine lv_iload_n hx hb dX8_leastWith_10 rfl (lv_at hl 3 rfl) ?_
  refine lv_iload_n hx hb dX8_leastWith_11 rfl (lv_at hl 4 rfl) ?_
  obtain ⟨hb1, hb2, hf⟩ := hf
  refine q_backV0 X hH (q_runV [.int a1, .int a2, .int a3] [] X hH hl (c_X8_setBond l D cy G X.2.2.2.1 S1 a0 a1 a2 a3 _ _ hf) mf_X8_setBond mv_X8_setBond tw_1717 ⟨Nat.le_of_ble_eq_true rfl, Nat.le_of_ble_eq_true rfl⟩ hb1 hb2 (T := TX8) (N := 25) rfl rfl (Nat.le_of_ble_eq_true rfl) dX8_leastWith_12 ⟨Nat.le_of_ble_eq_true rfl, Nat.le_of_ble_eq_true rfl⟩) (fun S3 hf H locs hH => ?_)
  refine lv_aload_n hx hb dX8_leastWith_15 rfl (lv_at hl 1 rfl) ?_
  obtain ⟨hb1, hb2, hf⟩ := hf
  refine q_backI0 X hH (q_runV [] [] X hH hl (c_X8_leastNow l D cy G X.2.2.2.1 S3 a0 _ _ hf) mf_X8_leastNow mv_X8_leastNow tw_1872 ⟨Nat.le_of_ble_eq_true rfl, Nat.le_of_ble_eq_true rfl⟩ hb1 hb2 (T := TX8) (N := 25) rfl rfl (Nat.le_of_ble_eq_true rfl) dX8_leastWith_16 ⟨Nat.le_of_ble_eq_true rfl, Nat.le_of_ble_eq_true rfl⟩) (fun v6 S5 hf H locs hH => ?_)
  refine lv_istore (lv' := [(5, .int v6), (4, .int v2), (0, .ref a0), (1, .int a1), (2, .int a2), (3, .int a3)]) hx hb dX8_leastWith_19 hl (by decide) rfl (fun ls hl => ?_)
  refine lv_aload_n hx hb dX8_leastWith_21 rfl (lv_at hl 2 rfl) ?_
  refine lv_iload_n hx hb dX8_leastWith_22 rfl (lv_at hl 3 rfl) ?_
  refine lv_iload_n hx hb dX8_leastWith_23 rfl (lv_at hl 4 rfl) ?_
  refine lv_iload hx hb dX8_leastWith_24 (lv_at hl 1 rfl) ?_
  obtain ⟨hb1, hb2, hf⟩ := hf
  refine q_backV0 X hH (q_runV [.int a1, .int a2, .int v2] [] X hH hl (c_X8_setBond l D cy G X.2.2.2.1 S5 a0 a1 a2 v2 _ _ hf) mf_X8_setBond mv_X8_setBond tw_1717 ⟨Nat.le_of_ble_eq_true rfl, Nat.le_of_ble_eq_true rfl⟩ hb1 hb2 (T := TX8) (N := 25) rfl rfl (Nat.le_of_ble_eq_true rfl) dX8_leastWith_26 ⟨Nat.le_of_ble_eq_true rfl, Nat.le_of_ble_eq_true rfl⟩) (fun S7 hf H locs hH => ?_)
  refine lv_iload hx hb dX8_leastWith_29 (lv_at hl 0 rfl) ?_
  exact q_retI X hH hr hlk hf (Nat.zero_le _) (Nat.zero_le _) dX8_leastWith_31
-- X8_ifBond
def f_X8_ifBond_J41 (post : Int32 → PS → Prop) (S : PS) (l0 : Nat) (l1 : Int32) (l2 : Int32) (l3 : Int32) (t0 : Int32) (t1 : Nat) : Prop :=
  pV S t1 12 0 (.int t0) fun S1 => (
  gI S1 l0 12 0 fun v2 => (
  if v2 = 0 then
    isO S1 l0 12 (
    f_X8_leastWith S1 l0 l1 l2 l3 fun v5 S4 => (
    post v5 S4))
  else
    post 0 S1))
def f_X8_ifBond_J17 (post : Int32 → PS → Prop) (S : PS) (l0 : Nat) (l1 : Int32) (l2 : Int32) (l3 : Int32) (t0 : Nat) : Prop :=
  f_X8_ifBond_J41 post S l0 l1 l2 l3 1 t0
def f_X8_ifBond_J36 (post : Int32 → PS → Prop) (S : PS) (l0 : Nat) (l1 : Int32) (l2 : Int32) (l3 : Int32) (t0 : Nat) : Prop :=
  f_X8_ifBond_J41 post S l0 l1 l2 l3 2 t0
def f_X8_ifBond (S : PS) (a0 : Nat) (a1 : Int32) (a2 : Int32) (a3 : Int32) (post : Int32 → PS → Prop) : Prop :=
  isO S a0 12 (
  f_X8_isHouse S a0 a1 fun v2 S1 => (
  if v2 = 0 then
    f_X8_ifBond_J17 post S1 a0 a1 a2 a3 a0
  else
    isO S1 a0 12 (
    f_X8_isHouse S1 a0 a2 fun v5 S4 => (
    if v5 = 0 then
      f_X8_ifBond_J17 post S4 a0 a1 a2 a3 a0
    else
      if a1 = a2 then
        f_X8_ifBond_J36 post S4 a0 a1 a2 a3 a0
      else
        f_X8_in S4 a3 0 99 fun v9 S8 => (
        if v9 = 0 then
          f_X8_ifBond_J36 post S8 a0 a1 a2 a3 a0
        else
          f_X8_ifBond_J41 post S8 a0 a1 a2 a3 0 a0)))))
abbrev rm_X8_ifBond : Room := { frames := 6, cells := 0, slots := 0, locals := 142 }
set_option maxHeartbeats 4000000 in
set_option maxRecDepth 100000 in
theorem c_X8_ifBond (l : Launch) (D : va_G) (cy : Nat → ClassId) (G : p_GT) (hG : p_ok G) (S : PS) (a0 : Nat) (a1 : Int32) (a2 : Int32) (a3 : Int32) (post : Int32 → PS → Prop) (sz : Nat) (hf : f_X8_ifBond S a0 a1 a2 a3 post) : p_Mi l D cy G S sz yX8_ifBond (Cond.code yX8_ifBond cX8_ifBond 4 (some .int) :: wG) rm_X8_ifBond [.ref a0, .int a1, .int a2, .int a3] 0 0 post := by
  refine q_start hG (Qc := fun A => va_Qi post (p_Post D cy A) A) mf_X8_ifBond (Nat.le_of_ble_eq_true rfl) (own := RX8) rfl ?_
  intro p e s m below meth c A X hr hlk hnm ls hl hH
  have hx := X.1.1
  have hb := X.1.2.1
  replace hl : lv_has ls 4 [(0, .ref a0), (1, .int a1), (2, .int a2), (3, .int a3)] := hl
  obtain ⟨H, hHe⟩ : ∃ H, H = s.heap := ⟨_, rfl⟩
  obtain ⟨locs, hlo⟩ : ∃ locs : List Loc, locs = [] := ⟨_, rfl⟩
  rw [← hHe, ← hlo] at hH
  show W p l e rm_X8_ifBond s m [.ref a0, .int a1, .int a2, .int a3].toArray below meth c s.heap [] 0 0 _ _
  rw [← hHe, ← hlo]
  have hJ41 : ∀ (S : PS) (l0 : Nat) (l1 : Int32) (l2 : Int32) (l3 : Int32) (t0 : Int32) (t1 : Nat), f_X8_ifBond_J41 post S l0 l1 l2 l3 t0 t1 → ∀ (H : Heap) (locs : List Loc) (ls : Array Slot), p_H D cy S A s H locs → lv_has ls 4 [(0, .ref l0), (1, .int l1), (2, .int l2), (3, .int l3)] → W p l e rm_X8_ifBond s m [.ref a0, .int a1, .int a2, .int a3].toArray below meth c H locs 0 0 (MQ below (va_Qi post (p_Post D cy A) A) [.ref a0, .int a1, .int a2, .int a3].toArray s 0 0 A) (F0 m 41 ls [.int t0, .ref t1]) := by
    intro S l0 l1 l2 l3 t0 t1 hf H locs ls hH hl
    refine q_putV (T := TX8) (N := 25) (ty0 := tyX8) (ty := tyX8 0) X hH hf iw_X8 tyX8_ok nmX8 rfl (by decide) tw_1609 (fun _ h => h) rfl (tyX8_ok 0 (by decide)) rfl rfl dX8_ifBond_41 (fun S1 hf H locs hH => ?_)
    refine lv_aload_n hx hb dX8_ifBond_44 rfl (lv_at hl 0 rfl) ?_
    refine q_getI (T := TX8) (N := 25) X hH hf iw_X8 rfl (by decide) tw_1609 (fun _ h => h) dX8_ifBond_45 (fun v2 hf => ?_)
    refine lv_if_ne (tgt := 61) hx hb dX8_ifBond_48 (by decide) (fun c3 => ?_) (fun c3 => ?_)
    · have hf := (if_neg c3).mp hf
      refine lv_iconst (v := 0) hx hb dX8_ifBond_61 (by decide) ?_
      exact q_retI X hH hr hlk hf (Nat.zero_le _) (Nat.zero_le _) dX8_ifBond_62
    · have hf := (if_pos c3).mp hf
      refine lv_aload_n hx hb dX8_ifBond_51 rfl (lv_at hl 0 rfl) ?_
      refine lv_iload_n hx hb dX8_ifBond_52 rfl (lv_at hl 1 rfl) ?_
      refine lv_iload_n hx hb dX8_ifBond_53 rfl (lv_at hl 2 rfl) ?_
      refine lv_iload_n hx hb dX8_ifBond_54 rfl (lv_at hl 3 rfl) ?_
      obtain ⟨hb1, hb2, hf⟩ := hf
      refine q_backI0 X hH (q_runV [.int l1, .int l2, .int l3] [] X hH hl (c_X8_leastWith l D cy G X.2.2.2.1 S1 l0 l1 l2 l3 _ _ hf) mf_X8_leastWith mv_X8_leastWith tw_1947 ⟨Nat.le_of_ble_eq_true rfl, Nat.le_of_ble_eq_true rfl⟩ hb1 hb2 (T := TX8) (N := 25) rfl rfl (Nat.le_of_ble_eq_true rfl) dX8_ifBond_55 ⟨Nat.le_of_ble_eq_true rfl, Nat.le_of_ble_eq_true rfl⟩) (fun v5 S4 hf H locs hH => ?_)
      refine lv_goto (tgt := 62) hx hb dX8_ifBond_58 (by decide) ?_
      exact q_retI X hH hr hlk hf (Nat.zero_le _) (Nat.zero_le _) dX8_ifBond_62
  have hJ17 : ∀ (S : PS) (l0 : Nat) (l1 : Int32) (l2 : Int32) (l3 : Int32) (t0 : Nat), f_X8_ifBond_J17 post S l0 l1 l2 l3 t0 → ∀ (H : Heap) (locs : List Loc) (ls : Array Slot), p_H D cy S A s H locs → lv_has ls 4 [(0, .ref l0), (1, .int l1), (2, .int l2), (3, .int l3)] → W p l e rm_X8_ifBond s m [.ref a0, .int a1, .int a2, .int a3].toArray below meth c H locs 0 0 (MQ below (va_Qi post (p_Post D cy A) A) [.ref a0, .int a1, .int a2, .int a3].toArray s 0 0 A) (F0 m 17 ls [.ref t0]) := by
    intro S l0 l1 l2 l3 t0 hf H locs ls hH hl
    refine lv_iconst (v := 1) hx hb dX8_ifBond_17 (by decide) ?_
    refine lv_goto (tgt := 41) hx hb dX8_ifBond_18 (by decide) ?_
    exact hJ41 S l0 l1 l2 l3 1 t0 hf H locs ls hH hl
  have hJ36 : ∀ (S : PS) (l0 : Nat) (l1 : Int32) (l2 : Int32) (l3 : Int32) (t0 : Nat), f_X8_ifBond_J36 post S l0 l1 l2 l3 t0 → ∀ (H : Heap) (locs : List Loc) (ls : Array Slot), p_H D cy S A s H locs → lv_has ls 4 [(0, .ref l0), (1, .int l1), (2, .int l2), (3, .int l3)] → W p l e rm_X8_ifBond s m [.ref a0, .int a1, .int a2, .int a3].toArray below meth c H locs 0 0 (MQ below (va_Qi post (p_Post D cy A) A) [.ref a0, .int a1, .int a2, .int a3].toArray s 0 0 A) (F0 m 36 ls [.ref t0]) := by
    intro S l0 l1 l2 l3 t0 hf H locs ls hH hl
    refine lv_iconst (v := 2) hx hb dX8_ifBond_36 (by decide) ?_
    refine lv_goto (tgt := 41) hx hb dX8_ifBond_37 (by decide) ?_
    exact hJ41 S l0 l1 l2 l3 2 t0 hf H locs ls hH hl
  refine lv_aload_n hx hb dX8_ifBond_0 rfl (lv_at hl 0 rfl) ?_
  refine lv_aload_n hx hb dX8_ifBond_1 rfl (lv_at hl 0 rfl) ?_
  refine lv_iload_n hx hb dX8_ifBond_2 rfl (lv_at hl 1 rfl) ?_
  obtain ⟨hb1, hb2, hf⟩ := hf
  refine q_backI0 X hH (q_runV [.int a1] [.ref a0] X hH hl (c_X8_isHouse l D cy G X.2.2.2.1 S a0 a1 _ _ hf) mf_X8_isHouse mv_X8_isHouse tw_1737 ⟨Nat.le_of_ble_eq_true rfl, Nat.le_of_ble_eq_true rfl⟩ hb1 hb2 (T := TX8) (N := 25) rfl rfl (Nat.le_of_ble_eq_true rfl) dX8_ifBond_3 ⟨Nat.le_of_ble_eq_true rfl, Nat.le_of_ble_eq_true rfl⟩) (fun v2 S1 hf H locs hH => ?_)
  refine lv_if_eq (tgt := 17) hx hb dX8_ifBond_6 (by decide) (fun c3 => ?_) (fun c3 => ?_)
  · have hf := (if_pos c3).mp hf
    exact hJ17 S1 a0 a1 a2 a3 a0 hf H locs ls hH hl
  · have hf := (if_neg c3).mp hf
    refine lv_aload_n hx hb dX8_ifBond_9 rfl (lv_at hl 0 rfl) ?_
    refine lv_iload_n hx hb dX8_ifBond_10 rfl (lv_at hl 2 rfl) ?_
    obtain ⟨hb1, hb2, hf⟩ := hf
    refine q_backI0 X hH (q_runV [.int a2] [.ref a0] X hH hl (c_X8_isHouse l D cy G X.2.2.2.1 S1 a0 a2 _ _ hf) mf_X8_isHouse mv_X8_isHouse tw_1737 ⟨Nat.le_of_ble_eq_true rfl, Nat.le_of_ble_eq_true rfl⟩ hb1 hb2 (T := TX8) (N := 25) rfl rfl (Nat.le_of_ble_eq_true rfl) dX8_ifBond_11 ⟨Nat.le_of_ble_eq_true rfl, Nat.le_of_ble_eq_true rfl⟩) (fun v5 S4 hf H locs hH => ?_)
    refine lv_if_ne (tgt := 21) hx hb dX8_ifBond_14 (by decide) (fun c6 => ?_) (fun c6 => ?_)
    · have hf := (if_neg c6).mp hf
      refine lv_iload_n hx hb dX8_ifBond_21 rfl (lv_at hl 1 rfl) ?_
      refine lv_iload_n hx hb dX8_ifBond_22 rfl (lv_at hl 2 rfl) ?_
      refine lv_icmp_eq (tgt := 36) hx hb dX8_ifBond_23 (by decide) (fun c7 => ?_) (fun c7 => ?_)
      · have hf := (if_pos c7).mp hf
        exact hJ36 S4 a0 a1 a2 a3 a0 hf H locs ls hH hl
      · have hf := (if_neg c7).mp hf
        refine lv_iload_n hx hb dX8_ifBond_26 rfl (lv_at hl 3 rfl) ?_
        refine lv_iconst (v := 0) hx hb dX8_ifBond_27 (by decide) ?_
        refine lv_bipush (v := 99) hx hb dX8_ifBond_28 (by decide) ?_
        refine q_backI0 X hH (q_runS [.int a3, .int 0, .int 99] [.ref a0] X hH hl (c_X8_in l D cy G X.2.2.2.1 S4 a3 0 99 _ _ hf) mf_X8_in tw_1695 tw_1694 ⟨Nat.le_of_ble_eq_true rfl, Nat.le_of_ble_eq_true rfl⟩ rfl (Nat.le_of_ble_eq_true rfl) dX8_ifBond_30 ⟨Nat.le_of_ble_eq_true rfl, Nat.le_of_ble_eq_true rfl⟩) (fun v9 S8 hf H locs hH => ?_)
        refine lv_if_ne (tgt := 40) hx hb dX8_ifBond_33 (by decide) (fun c10 => ?_) (fun c10 => ?_)
        · have hf := (if_neg c10).mp hf
          refine lv_iconst (v := 0) hx hb dX8_ifBond_40 (by decide) ?_
          exact hJ41 S8 a0 a1 a2 a3 0 a0 hf H locs ls hH hl
        · have hf := (if_pos c10).mp hf
          exact hJ36 S8 a0 a1 a2 a3 a0 hf H locs ls hH hl
    · have hf := (if_pos c6).mp hf
      exact hJ17 S4 a0 a1 a2 a3 a0 hf H locs ls hH hl
-- X8_isCritical
def f_X8_isCritical_J40 (post : Int32 → PS → Prop) (S : PS) (l0 : Nat) (l1 : Int32) (l2 : Int32) (t0 : Int32) (t1 : Nat) : Prop :=
  pV S t1 12 0 (.int t0) fun S1 => (
  gI S1 l0 12 0 fun v2 => (
  if v2 = 0 then
    isO S1 l0 12 (
    f_X8_leastWith S1 l0 l1 l2 0 fun v5 S4 => (
    isO S4 l0 12 (
    f_X8_leastNow S4 l0 fun v7 S6 => (
    if v7 ≤ v5 then
      nZ .boolean 0 (post 0 S6)
    else
      nZ .boolean 1 (post 1 S6)))))
  else
    nZ .boolean 0 (post 0 S1)))
def f_X8_isCritical_J17 (post : Int32 → PS → Prop) (S : PS) (l0 : Nat) (l1 : Int32) (l2 : Int32) (t0 : Nat) : Prop :=
  f_X8_isCritical_J40 post S l0 l1 l2 1 t0
def f_X8_isCritical_J35 (post : Int32 → PS → Prop) (S : PS) (l0 : Nat) (l1 : Int32) (l2 : Int32) (t0 : Nat) : Prop :=
  f_X8_isCritical_J40 post S l0 l1 l2 2 t0
def f_X8_isCritical (S : PS) (a0 : Nat) (a1 : Int32) (a2 : Int32) (post : Int32 → PS → Prop) : Prop :=
  isO S a0 12 (
  f_X8_isHouse S a0 a1 fun v2 S1 => (
  if v2 = 0 then
    f_X8_isCritical_J17 post S1 a0 a1 a2 a0
  else
    isO S1 a0 12 (
    f_X8_isHouse S1 a0 a2 fun v5 S4 => (
    if v5 = 0 then
      f_X8_isCritical_J17 post S4 a0 a1 a2 a0
    else
      if a1 = a2 then
        f_X8_isCritical_J35 post S4 a0 a1 a2 a0
      else
        isO S4 a0 12 (
        f_X8_w S4 a0 a1 a2 fun v9 S8 => (
        if v9 = 0 then
          f_X8_isCritical_J35 post S8 a0 a1 a2 a0
        else
          f_X8_isCritical_J40 post S8 a0 a1 a2 0 a0))))))
abbrev rm_X8_isCritical : Room := { frames := 6, cells := 0, slots := 0, locals := 142 }
set_option maxHeartbeats 4000000 in
set_option maxRecDepth 100000 in
theorem c_X8_isCritical (l : Launch) (D : va_G) (cy : Nat → ClassId) (G : p_GT) (hG : p_ok G) (S : PS) (a0 : Nat) (a1 : Int32) (a2 : Int32) (post : Int32 → PS → Prop) (sz : Nat) (hf : f_X8_isCritical S a0 a1 a2 post) : p_Mi l D cy G S sz yX8_isCritical (Cond.code yX8_isCritical cX8_isCritical 3 (some .boolean) :: wG) rm_X8_isCritical [.ref a0, .int a1, .int a2] 0 0 post := by
  refine q_start hG (Qc := fun A => va_Qi post (p_Post D cy A) A) mf_X8_isCritical (Nat.le_of_ble_eq_true rfl) (own := RX8) rfl ?_
  intro p e s m below meth c A X hr hlk hnm ls hl hH
  have hx := X.1.1
  have hb := X.1.2.1
  replace hl : lv_has ls 3 [(0, .ref a0), (1, .int a1), (2, .int a2)] := hl
  obtain ⟨H, hHe⟩ : ∃ H, H = s.heap := ⟨_, rfl⟩
  obtain ⟨locs, hlo⟩ : ∃ locs : List Loc, locs = [] := ⟨_, rfl⟩
  rw [← hHe, ← hlo] at hH
  show W p l e rm_X8_isCritical s m [.ref a0, .int a1, .int a2].toArray below meth c s.heap [] 0 0 _ _
  rw [← hHe, ← hlo]
  have hJ40 : ∀ (S : PS) (l0 : Nat) (l1 : Int32) (l2 : Int32) (t0 : Int32) (t1 : Nat), f_X8_isCritical_J40 post S l0 l1 l2 t0 t1 → ∀ (H : Heap) (locs : List Loc) (ls : Array Slot), p_H D cy S A s H locs → lv_has ls 3 [(0, .ref l0), (1, .int l1), (2, .int l2)] → W p l e rm_X8_isCritical s m [.ref a0, .int a1, .int a2].toArray below meth c H locs 0 0 (MQ below (va_Qi post (p_Post D cy A) A) [.ref a0, .int a1, .int a2].toArray s 0 0 A) (F0 m 40 ls [.int t0, .ref t1]) := by
    intro S l0 l1 l2 t0 t1 hf H locs ls hH hl
    refine q_putV (T := TX8) (N := 25) (ty0 := tyX8) (ty := tyX8 0) X hH hf iw_X8 tyX8_ok nmX8 rfl (by decide) tw_1609 (fun _ h => h) rfl (tyX8_ok 0 (by decide)) rfl rfl dX8_isCritical_40 (fun S1 hf H locs hH => ?_)
    refine lv_aload_n hx hb dX8_isCritical_43 rfl (lv_at hl 0 rfl) ?_
    refine q_getI (T := TX8) (N := 25) X hH hf iw_X8 rfl (by decide) tw_1609 (fun _ h => h) dX8_isCritical_44 (fun v2 hf => ?_)
    refine lv_if_ne (tgt := 68) hx hb dX8_isCritical_47 (by decide) (fun c3 => ?_) (fun c3 => ?_)
    · have hf := (if_neg c3).mp hf
      refine lv_iconst (v := 0) hx hb dX8_isCritical_68 (by decide) ?_
      exact q_retZ X hH hr hlk hf (Nat.zero_le _) (Nat.zero_le _) dX8_isCritical_69
    · have hf := (if_pos c3).mp hf
      refine lv_aload_n hx hb dX8_isCritical_50 rfl (lv_at hl 0 rfl) ?_
      refine lv_iload_n hx hb dX8_isCritical_51 rfl (lv_at hl 1 rfl) ?_
      refine lv_iload_n hx hb dX8_isCritical_52 rfl (lv_at hl 2 rfl) ?_
      refine lv_iconst (v := 0) hx hb dX8_isCritical_53 (by decide) ?_
      obtain ⟨hb1, hb2, hf⟩ := hf
      refine q_backI0 X hH (q_runV [.int l1, .int l2, .int 0] [] X hH hl (c_X8_leastWith l D cy G X.2.2.2.1 S1 l0 l1 l2 0 _ _ hf) mf_X8_leastWith mv_X8_leastWith tw_1947 ⟨Nat.le_of_ble_eq_true rfl, Nat.le_of_ble_eq_true rfl⟩ hb1 hb2 (T := TX8) (N := 25) rfl rfl (Nat.le_of_ble_eq_true rfl) dX8_isCritical_54 ⟨Nat.le_of_ble_eq_true rfl, Nat.le_of_ble_eq_true rfl⟩) (fun v5 S4 hf H locs hH => ?_)
      refine lv_aload_n hx hb dX8_isCritical_57 rfl (lv_at hl 0 rfl) ?_
      obtain ⟨hb1, hb2, hf⟩ := hf
      refine q_backI0 X hH (q_runV [] [.int v5] X hH hl (c_X8_leastNow l D cy G X.2.2.2.1 S4 l0 _ _ hf) mf_X8_leastNow mv_X8_leastNow tw_1872 ⟨Nat.le_of_ble_eq_true rfl, Nat.le_of_ble_eq_true rfl⟩ hb1 hb2 (T := TX8) (N := 25) rfl rfl (Nat.le_of_ble_eq_true rfl) dX8_isCritical_58 ⟨Nat.le_of_ble_eq_true rfl, Nat.le_of_ble_eq_true rfl⟩) (fun v7 S6 hf H locs hH => ?_)
      refine lv_icmp_ge (tgt := 68) hx hb dX8_isCritical_61 (by decide) (fun c8 => ?_) (fun c8 => ?_)
      · have hf := (if_pos c8).mp hf
        refine lv_iconst (v := 0) hx hb dX8_isCritical_68 (by decide) ?_
        exact q_retZ X hH hr hlk hf (Nat.zero_le _) (Nat.zero_le _) dX8_isCritical_69
      · have hf := (if_neg c8).mp hf
        refine lv_iconst (v := 1) hx hb dX8_isCritical_64 (by decide) ?_
        refine lv_goto (tgt := 69) hx hb dX8_isCritical_65 (by decide) ?_
        exact q_retZ X hH hr hlk hf (Nat.zero_le _) (Nat.zero_le _) dX8_isCritical_69
  have hJ17 : ∀ (S : PS) (l0 : Nat) (l1 : Int32) (l2 : Int32) (t0 : Nat), f_X8_isCritical_J17 post S l0 l1 l2 t0 → ∀ (H : Heap) (locs : List Loc) (ls : Array Slot), p_H D cy S A s H locs → lv_has ls 3 [(0, .ref l0), (1, .int l1), (2, .int l2)] → W p l e rm_X8_isCritical s m [.ref a0, .int a1, .int a2].toArray below meth c H locs 0 0 (MQ below (va_Qi post (p_Post D cy A) A) [.ref a0, .int a1, .int a2].toArray s 0 0 A) (F0 m 17 ls [.ref t0]) := by
    intro S l0 l1 l2 t0 hf H locs ls hH hl
    refine lv_iconst (v := 1) hx hb dX8_isCritical_17 (by decide) ?_
    refine lv_goto (tgt := 40) hx hb dX8_isCritical_18 (by decide) ?_
    exact hJ40 S l0 l1 l2 1 t0 hf H locs ls hH hl
  have hJ35 : ∀ (S : PS) (l0 : Nat) (l1 : Int32) (l2 : Int32) (t0 : Nat), f_X8_isCritical_J35 post S l0 l1 l2 t0 → ∀ (H : Heap) (locs : List Loc) (ls : Array Slot), p_H D cy S A s H locs → lv_has ls 3 [(0, .ref l0), (1, .int l1), (2, .int l2)] → W p l e rm_X8_isCritical s m [.ref a0, .int a1, .int a2].toArray below meth c H locs 0 0 (MQ below (va_Qi post (p_Post D cy A) A) [.ref a0, .int a1, .int a2].toArray s 0 0 A) (F0 m 35 ls [.ref t0]) := by
    intro S l0 l1 l2 t0 hf H locs ls hH hl
    refine lv_iconst (v := 2) hx hb dX8_isCritical_35 (by decide) ?_
    refine lv_goto (tgt := 40) hx hb dX8_isCritical_36 (by decide) ?_
    exact hJ40 S l0 l1 l2 2 t0 hf H locs ls hH hl
  refine lv_aload_n hx hb dX8_isCritical_0 rfl (lv_at hl 0 rfl) ?_
  refine lv_aload_n hx hb dX8_isCritical_1 rfl (lv_at hl 0 rfl) ?_
  refine lv_iload_n hx hb dX8_isCritical_2 rfl (lv_at hl 1 rfl) ?_
  obtain ⟨hb1, hb2, hf⟩ := hf
  refine q_backI0 X hH (q_runV [.int a1] [.ref a0] X hH hl (c_X8_isHouse l D cy G X.2.2.2.1 S a0 a1 _ _ hf) mf_X8_isHouse mv_X8_isHouse tw_1737 ⟨Nat.le_of_ble_eq_true rfl, Nat.le_of_ble_eq_true rfl⟩ hb1 hb2 (T := TX8) (N := 25) rfl rfl (Nat.le_of_ble_eq_true rfl) dX8_isCritical_3 ⟨Nat.le_of_ble_eq_true rfl, Nat.le_of_ble_eq_true rfl⟩) (fun v2 S1 hf H locs hH => ?_)
  refine lv_if_eq (tgt := 17) hx hb dX8_isCritical_6 (by decide) (fun c3 => ?_) (fun c3 => ?_)
  · have hf := (if_pos c3).mp hf
    exact hJ17 S1 a0 a1 a2 a0 hf H locs ls hH hl
  · have hf := (if_neg c3).mp hf
    refine lv_aload_n hx hb dX8_isCritical_9 rfl (lv_at hl 0 rfl) ?_
    refine lv_iload_n hx hb dX8_isCritical_10 rfl (lv_at hl 2 rfl) ?_
    obtain ⟨hb1, hb2, hf⟩ := hf
    refine q_backI0 X hH (q_runV [.int a2] [.ref a0] X hH hl (c_X8_isHouse l D cy G X.2.2.2.1 S1 a0 a2 _ _ hf) mf_X8_isHouse mv_X8_isHouse tw_1737 ⟨Nat.le_of_ble_eq_true rfl, Nat.le_of_ble_eq_true rfl⟩ hb1 hb2 (T := TX8) (N := 25) rfl rfl (Nat.le_of_ble_eq_true rfl) dX8_isCritical_11 ⟨Nat.le_of_ble_eq_true rfl, Nat.le_of_ble_eq_true rfl⟩) (fun v5 S4 hf H locs hH => ?_)
    refine lv_if_ne (tgt := 21) hx hb dX8_isCritical_14 (by decide) (fun c6 => ?_) (fun c6 => ?_)
    · have hf := (if_neg c6).mp hf
      refine lv_iload_n hx hb dX8_isCritical_21 rfl (lv_at hl 1 rfl) ?_
      refine lv_iload_n hx hb dX8_isCritical_22 rfl (lv_at hl 2 rfl) ?_
      refine lv_icmp_eq (tgt := 35) hx hb dX8_isCritical_23 (by decide) (fun c7 => ?_) (fun c7 => ?_)
      · have hf := (if_pos c7).mp hf
        exact hJ35 S4 a0 a1 a2 a0 hf H locs ls hH hl
      · have hf := (if_neg c7).mp hf
        refine lv_aload_n hx hb dX8_isCritical_26 rfl (lv_at hl 0 rfl) ?_
        refine lv_iload_n hx hb dX8_isCritical_27 rfl (lv_at hl 1 rfl) ?_
        refine lv_iload_n hx hb dX8_isCritical_28 rfl (lv_at hl 2 rfl) ?_
        obtain ⟨hb1, hb2, hf⟩ := hf
        refine q_backI0 X hH (q_runV [.int a1, .int a2] [.ref a0] X hH hl (c_X8_w l D cy G X.2.2.2.1 S4 a0 a1 a2 _ _ hf) mf_X8_w mv_X8_w tw_1745 ⟨Nat.le_of_ble_eq_true rfl, Nat.le_of_ble_eq_true rfl⟩ hb1 hb2 (T := TX8) (N := 25) rfl rfl (Nat.le_of_ble_eq_true rfl) dX8_isCritical_29 ⟨Nat.le_of_ble_eq_true rfl, Nat.le_of_ble_eq_true rfl⟩) (fun v9 S8 hf H locs hH => ?_)
        refine lv_if_ne (tgt := 39) hx hb dX8_isCritical_32 (by decide) (fun c10 => ?_) (fun c10 => ?_)
        · have hf := (if_neg c10).mp hf
          refine lv_iconst (v := 0) hx hb dX8_isCritical_39 (by decide) ?_
          exact hJ40 S8 a0 a1 a2 0 a0 hf H locs ls hH hl
        · have hf := (if_pos c10).mp hf
          exact hJ35 S8 a0 a1 a2 a0 hf H locs ls hH hl
    · have hf := (if_pos c6).mp hf
      exact hJ17 S4 a0 a1 a2 a0 hf H locs ls hH hl
-- X8_reached
def f_X8_reached_J56 (post : Int32 → PS → Prop) (g6 : PS → Nat → Int32 → Int32 → Prop) (S : PS) (l0 : Nat) (l2 : Int32) (l3 : Int32) : Prop :=
  g6 S l0 l2 l3
def f_X8_reached_J48 (post : Int32 → PS → Prop) (g16 : PS → Nat → Int32 → Int32 → Int32 → Prop) (S : PS) (l0 : Nat) (l3 : Int32) (l4 : Int32) (t0 : Int32) (t1 : Int32) : Prop :=
  g16 S l0 (t1 ||| t0) l3 (l4 + 1)
def f_X8_reached_L16 (post : Int32 → PS → Prop) (g6 : PS → Nat → Int32 → Int32 → Prop) : Nat → PS → Nat → Int32 → Int32 → Int32 → Prop
  | 0, _, _, _, _, _ => False
  | n + 1, S, l0, l2, l3, l4 =>
  gR S l0 12 1 fun v1 => (
  aI S v1 0 0 fun v2 => (
  if v2 ≤ l4 then
    f_X8_reached_J56 post g6 S l0 l2 l3
  else
    isO S l0 12 (
    f_X8_tie S l0 ((1 : Int32) <<< (l4 &&& 31)) l3 fun v5 S4 => (
    if v5 ≤ 0 then
      f_X8_reached_J48 post (f_X8_reached_L16 post g6 n) S4 l0 l3 l4 0 l2
    else
      f_X8_reached_J48 post (f_X8_reached_L16 post g6 n) S4 l0 l3 l4 ((1 : Int32) <<< (l4 &&& 31)) l2))))
def f_X8_reached_L6 (post : Int32 → PS → Prop) : Nat → PS → Nat → Int32 → Int32 → Prop
  | 0, _, _, _, _ => False
  | n + 1, S, l0, l2, l3 =>
  if l3 = l2 then
    post l2 S
  else
    f_X8_reached_L16 post (f_X8_reached_L6 post n) 4096 S l0 l2 l2 0
def f_X8_reached (S : PS) (a0 : Nat) (a1 : Int32) (post : Int32 → PS → Prop) : Prop :=
  f_X8_reached_L6 post 4096 S a0 ((1 : Int32) <<< (a1 &&& 31)) 0
abbrev rm_X8_reached : Room := { frames := 2, cells := 0, slots := 0, locals := 47 }
set_option maxHeartbeats 4000000 in
set_option maxRecDepth 100000 in
theorem c_X8_reached (l : Launch) (D : va_G) (cy : Nat → ClassId) (G : p_GT) (hG : p_ok G) (S : PS) (a0 : Nat) (a1 : Int32) (post : Int32 → PS → Prop) (sz : Nat) (hf : f_X8_reached S a0 a1 post) : p_Mi l D cy G S sz yX8_reached (Cond.code yX8_reached cX8_reached 5 (some .int) :: wG) rm_X8_reached [.ref a0, .int a1] 0 0 post := by
  refine q_start hG (Qc := fun A => va_Qi post (p_Post D cy A) A) mf_X8_reached (Nat.le_of_ble_eq_true rfl) (own := RX8) rfl ?_
  intro p e s m below meth c A X hr hlk hnm ls hl hH
  have hx := X.1.1
  have hb := X.1.2.1
  replace hl : lv_has ls 5 [(0, .ref a0), (1, .int a1)] := hl
  obtain ⟨H, hHe⟩ : ∃ H, H = s.heap := ⟨_, rfl⟩
  obtain ⟨locs, hlo⟩ : ∃ locs : List Loc, locs = [] := ⟨_, rfl⟩
  rw [← hHe, ← hlo] at hH
  show W p l e rm_X8_reached s m [.ref a0, .int a1].toArray below meth c s.heap [] 0 0 _ _
  rw [← hHe, ← hlo]
  have hL6 : ∀ (n6 : Nat) (S : PS) (l0 : Nat) (l2 : Int32) (l3 : Int32), f_X8_reached_L6 post n6 S l0 l2 l3 → ∀ (H : Heap) (locs : List Loc) (ls : Array Slot), p_H D cy S A s H locs → lv_has ls 5 [(0, .ref l0), (2, .int l2), (3, .int l3)] → W p l e rm_X8_reached s m [.ref a0, .int a1].toArray below meth c H locs 0 0 (MQ below (va_Qi post (p_Post D cy A) A) [.ref a0, .int a1].toArray s 0 0 A) (F0 m 6 ls []) := by
    intro n6
    induction n6 with
    | zero => intro S l0 l2 l3 hf; exact hf.elim
    | succ n6 ih6 =>
      intro S l0 l2 l3 hf H locs ls hH hl
      have hL16 : ∀ (n16 : Nat) (S : PS) (l0 : Nat) (l2 : Int32) (l3 : Int32) (l4 : Int32), f_X8_reached_L16 post (f_X8_reached_L6 post n6) n16 S l0 l2 l3 l4 → ∀ (H : Heap) (locs : List Loc) (ls : Array Slot), p_H D cy S A s H locs → lv_has ls 5 [(0, .ref l0), (2, .int l2), (3, .int l3), (4, .int l4)] → W p l e rm_X8_reached s m [.ref a0, .int a1].toArray below meth c H locs 0 0 (MQ below (va_Qi post (p_Post D cy A) A) [.ref a0, .int a1].toArray s 0 0 A) (F0 m 16 ls []) := by
        intro n16
        induction n16 with
        | zero => intro S l0 l2 l3 l4 hf; exact hf.elim
        | succ n16 ih16 =>
          intro S l0 l2 l3 l4 hf H locs ls hH hl
          have hJ56 : ∀ (S : PS) (l0 : Nat) (l2 : Int32) (l3 : Int32), f_X8_reached_J56 post (f_X8_reached_L6 post n6) S l0 l2 l3 → ∀ (H : Heap) (locs : List Loc) (ls : Array Slot), p_H D cy S A s H locs → lv_has ls 5 [(0, .ref l0), (2, .int l2), (3, .int l3)] → W p l e rm_X8_reached s m [.ref a0, .int a1].toArray below meth c H locs 0 0 (MQ below (va_Qi post (p_Post D cy A) A) [.ref a0, .int a1].toArray s 0 0 A) (F0 m 56 ls []) := by
            intro S l0 l2 l3 hf H locs ls hH hl
            refine lv_goto (tgt := 6) hx hb dX8_reached_56 (by decide) ?_
            exact ih6 S l0 l2 l3 hf H locs ls hH hl
          have hJ48 : ∀ (S : PS) (l0 : Nat) (l3 : Int32) (l4 : Int32) (t0 : Int32) (t1 : Int32), f_X8_reached_J48 post (f_X8_reached_L16 post (f_X8_reached_L6 post n6) n16) S l0 l3 l4 t0 t1 → ∀ (H : Heap) (locs : List Loc) (ls : Array Slot), p_H D cy S A s H locs → lv_has ls 5 [(0, .ref l0), (3, .int l3), (4, .int l4)] → W p l e rm_X8_reached s m [.ref a0, .int a1].toArray below meth c H locs 0 0 (MQ below (va_Qi post (p_Post D cy A) A) [.ref a0, .int a1].toArray s 0 0 A) (F0 m 48 ls [.int t0, .int t1]) := by
            intro S l0 l3 l4 t0 t1 hf H locs ls hH hl
            refine lv_ior hx hb dX8_reached_48 ?_
            refine lv_istore_n (lv' := [(2, .int (t1 ||| t0)), (0, .ref l0), (3, .int l3), (4, .int l4)]) hx hb dX8_reached_49 rfl hl (by decide) rfl (fun ls hl => ?_)
            refine lv_iinc (v := l4 + 1) (lv' := [(4, .int (l4 + 1)), (2, .int (t1 ||| t0)), (0, .ref l0), (3, .int l3)]) hx hb dX8_reached_50 hl (k := 3) rfl rfl (by decide) rfl (fun ls hl => ?_)
            refine lv_goto (tgt := 16) hx hb dX8_reached_53 (by decide) ?_
            exact ih16 S l0 (t1 ||| t0) l3 (l4 + 1) hf H locs ls hH (lv_sub hl [2, 1, 3, 0] rfl)
          refine lv_iload hx hb dX8_reached_16 (lv_at hl 3 rfl) ?_
          refine lv_aload_n hx hb dX8_reached_18 rfl (lv_at hl 0 rfl) ?_
          refine q_getR (T := TX8) (N := 25) X hH hf iw_X8 rfl (by decide) tw_1610 (fun _ h => h) dX8_reached_19 (fun v1 hf => ?_)
          refine lv_iconst (v := 0) hx hb dX8_reached_22 (by decide) ?_
          refine q_iald X hH hf dX8_reached_23 (fun v2 hf => ?_)
          refine lv_icmp_ge (tgt := 56) hx hb dX8_reached_24 (by decide) (fun c3 => ?_) (fun c3 => ?_)
          · have hf := (if_pos c3).mp hf
            exact hJ56 S l0 l2 l3 hf H locs ls hH (lv_sub hl [0, 1, 2] rfl)
          · have hf := (if_neg c3).mp hf
            refine lv_iload_n hx hb dX8_reached_27 rfl (lv_at hl 1 rfl) ?_
            refine lv_aload_n hx hb dX8_reached_28 rfl (lv_at hl 0 rfl) ?_
            refine lv_iconst (v := 1) hx hb dX8_reached_29 (by decide) ?_
            refine lv_iload hx hb dX8_reached_30 (lv_at hl 3 rfl) ?_
            refine lv_ishl hx hb dX8_reached_32 ?_
            refine lv_iload_n hx hb dX8_reached_33 rfl (lv_at hl 2 rfl) ?_
            obtain ⟨hb1, hb2, hf⟩ := hf
            refine q_backI0 X hH (q_runV [.int ((1 : Int32) <<< (l4 &&& 31)), .int l3] [.int l2] X hH hl (c_X8_tie l D cy G X.2.2.2.1 S l0 ((1 : Int32) <<< (l4 &&& 31)) l3 _ _ hf) mf_X8_tie mv_X8_tie tw_1805 ⟨Nat.le_of_ble_eq_true rfl, Nat.le_of_ble_eq_true rfl⟩ hb1 hb2 (T := TX8) (N := 25) rfl rfl (Nat.le_of_ble_eq_true rfl) dX8_reached_34 ⟨Nat.le_of_ble_eq_true rfl, Nat.le_of_ble_eq_true rfl⟩) (fun v5 S4 hf H locs hH => ?_)
            refine lv_if_le (tgt := 47) hx hb dX8_reached_37 (by decide) (fun c6 => ?_) (fun c6 => ?_)
            · have hf := (if_pos c6).mp hf
              refine lv_iconst (v := 0) hx hb dX8_reached_47 (by decide) ?_
              exact hJ48 S4 l0 l3 l4 0 l2 hf H locs ls hH (lv_sub hl [0, 2, 3] rfl)
            · have hf := (if_neg c6).mp hf
              refine lv_iconst (v := 1) hx hb dX8_reached_40 (by decide) ?_
              refine lv_iload hx hb dX8_reached_41 (lv_at hl 3 rfl) ?_
              refine lv_ishl hx hb dX8_reached_43 ?_
              refine lv_goto (tgt := 48) hx hb dX8_reached_44 (by decide) ?_
              exact hJ48 S4 l0 l3 l4 ((1 : Int32) <<< (l4 &&& 31)) l2 hf H locs ls hH (lv_sub hl [0, 2, 3] rfl)
      refine lv_iload_n hx hb dX8_reached_6 rfl (lv_at hl 2 rfl) ?_
      refine lv_iload_n hx hb dX8_reached_7 rfl (lv_at hl 1 rfl) ?_
      refine lv_icmp_eq (tgt := 59) hx hb dX8_reached_8 (by decide) (fun c1 => ?_) (fun c1 => ?_)
      · have hf := (if_pos c1).mp hf
        refine lv_iload_n hx hb dX8_reached_59 rfl (lv_at hl 1 rfl) ?_
        exact q_retI X hH hr hlk hf (Nat.zero_le _) (Nat.zero_le _) dX8_reached_60
      · have hf := (if_neg c1).mp hf
        refine lv_iload_n hx hb dX8_reached_11 rfl (lv_at hl 1 rfl) ?_
        refine lv_istore_n (lv' := [(3, .int l2), (0, .ref l0), (2, .int l2)]) hx hb dX8_reached_12 rfl hl (by decide) rfl (fun ls hl => ?_)
        refine lv_iconst (v := 0) hx hb dX8_reached_13 (by decide) ?_
        refine lv_istore (lv' := [(4, .int 0), (3, .int l2), (0, .ref l0), (2, .int l2)]) hx hb dX8_reached_14 hl (by decide) rfl (fun ls hl => ?_)
        exact hL16 4096 S l0 l2 l2 0 hf H locs ls hH (lv_sub hl [2, 3, 1, 0] rfl)
  refine lv_iconst (v := 1) hx hb dX8_reached_0 (by decide) ?_
  refine lv_iload_n hx hb dX8_reached_1 rfl (lv_at hl 1 rfl) ?_
  refine lv_ishl hx hb dX8_reached_2 ?_
  refine lv_istore_n (lv' := [(2, .int ((1 : Int32) <<< (a1 &&& 31))), (0, .ref a0), (1, .int a1)]) hx hb dX8_reached_3 rfl hl (by decide) rfl (fun ls hl => ?_)
  refine lv_iconst (v := 0) hx hb dX8_reached_4 (by decide) ?_
  refine lv_istore_n (lv' := [(3, .int 0), (2, .int ((1 : Int32) <<< (a1 &&& 31))), (0, .ref a0), (1, .int a1)]) hx hb dX8_reached_5 rfl hl (by decide) rfl (fun ls hl => ?_)
  exact hL6 4096 S a0 ((1 : Int32) <<< (a1 &&& 31)) 0 hf H locs ls hH (lv_sub hl [2, 1, 0] rfl)
-- X8_parts
def f_X8_parts_J37 (post : Int32 → PS → Prop) (g9 : PS → Nat → Int32 → Int32 → Prop) (S : PS) (l0 : Nat) (l2 : Int32) (t0 : Int32) (t1 : Int32) : Prop :=
  g9 S l0 (t1 + t0) (l2 + 1)
def f_X8_parts_L9 (post : Int32 → PS → Prop) : Nat → PS → Nat → Int32 → Int32 → Prop
  | 0, _, _, _, _ => False
  | n + 1, S, l0, l1, l2 =>
  gR S l0 12 1 fun v1 => (
  aI S v1 0 0 fun v2 => (
  if v2 ≤ l2 then
    post l1 S
  else
    isO S l0 12 (
    f_X8_reached S l0 l2 fun v5 S4 => (
    f_X8_lowest S4 v5 fun v7 S6 => (
    if v7 = l2 then
      f_X8_parts_J37 post (f_X8_parts_L9 post n) S6 l0 l2 1 l1
    else
      f_X8_parts_J37 post (f_X8_parts_L9 post n) S6 l0 l2 0 l1)))))
def f_X8_parts (S : PS) (a0 : Nat) (post : Int32 → PS → Prop) : Prop :=
  pV S a0 12 0 (.int 0) fun S1 => (
  f_X8_parts_L9 post 4096 S1 a0 0 0)
abbrev rm_X8_parts : Room := { frames := 3, cells := 0, slots := 0, locals := 71 }
set_option maxHeartbeats 4000000 in
set_option maxRecDepth 100000 in
theorem c_X8_parts (l : Launch) (D : va_G) (cy : Nat → ClassId) (G : p_GT) (hG : p_ok G) (S : PS) (a0 : Nat) (post : Int32 → PS → Prop) (sz : Nat) (hf : f_X8_parts S a0 post) : p_Mi l D cy G S sz yX8_parts (Cond.code yX8_parts cX8_parts 3 (some .int) :: wG) rm_X8_parts [.ref a0] 0 0 post := by
  refine q_start hG (Qc := fun A => va_Qi post (p_Post D cy A) A) mf_X8_parts (Nat.le_of_ble_eq_true rfl) (own := RX8) rfl ?_
  intro p e s m below meth c A X hr hlk hnm ls hl hH
  have hx := X.1.1
  have hb := X.1.2.1
  replace hl : lv_has ls 3 [(0, .ref a0)] := hl
  obtain ⟨H, hHe⟩ : ∃ H, H = s.heap := ⟨_, rfl⟩
  obtain ⟨locs, hlo⟩ : ∃ locs : List Loc, locs = [] := ⟨_, rfl⟩
  rw [← hHe, ← hlo] at hH
  show W p l e rm_X8_parts s m [.ref a0].toArray below meth c s.heap [] 0 0 _ _
  rw [← hHe, ← hlo]
  have hL9 : ∀ (n9 : Nat) (S : PS) (l0 : Nat) (l1 : Int32) (l2 : Int32), f_X8_parts_L9 post n9 S l0 l1 l2 → ∀ (H : Heap) (locs : List Loc) (ls : Array Slot), p_H D cy S A s H locs → lv_has ls 3 [(0, .ref l0), (1, .int l1), (2, .int l2)] → W p l e rm_X8_parts s m [.ref a0].toArray below meth c H locs 0 0 (MQ below (va_Qi post (p_Post D cy A) A) [.ref a0].toArray s 0 0 A) (F0 m 9 ls []) := by
    intro n9
    induction n9 with
    | zero => intro S l0 l1 l2 hf; exact hf.elim
    | succ n9 ih9 =>
      intro S l0 l1 l2 hf H locs ls hH hl
      have hJ37 : ∀ (S : PS) (l0 : Nat) (l2 : Int32) (t0 : Int32) (t1 : Int32), f_X8_parts_J37 post (f_X8_parts_L9 post n9) S l0 l2 t0 t1 → ∀ (H : Heap) (locs : List Loc) (ls : Array Slot), p_H D cy S A s H locs → lv_has ls 3 [(0, .ref l0), (2, .int l2)] → W p l e rm_X8_parts s m [.ref a0].toArray below meth c H locs 0 0 (MQ below (va_Qi post (p_Post D cy A) A) [.ref a0].toArray s 0 0 A) (F0 m 37 ls [.int t0, .int t1]) := by
        intro S l0 l2 t0 t1 hf H locs ls hH hl
        refine lv_iadd hx hb dX8_parts_37 ?_
        refine lv_istore_n (lv' := [(1, .int (t1 + t0)), (0, .ref l0), (2, .int l2)]) hx hb dX8_parts_38 rfl hl (by decide) rfl (fun ls hl => ?_)
        refine lv_iinc (v := l2 + 1) (lv' := [(2, .int (l2 + 1)), (1, .int (t1 + t0)), (0, .ref l0)]) hx hb dX8_parts_39 hl (k := 2) rfl rfl (by decide) rfl (fun ls hl => ?_)
        refine lv_goto (tgt := 9) hx hb dX8_parts_42 (by decide) ?_
        exact ih9 S l0 (t1 + t0) (l2 + 1) hf H locs ls hH (lv_sub hl [2, 1, 0] rfl)
      refine lv_iload_n hx hb dX8_parts_9 rfl (lv_at hl 2 rfl) ?_
      refine lv_aload_n hx hb dX8_parts_10 rfl (lv_at hl 0 rfl) ?_
      refine q_getR (T := TX8) (N := 25) X hH hf iw_X8 rfl (by decide) tw_1610 (fun _ h => h) dX8_parts_11 (fun v1 hf => ?_)
      refine lv_iconst (v := 0) hx hb dX8_parts_14 (by decide) ?_
      refine q_iald X hH hf dX8_parts_15 (fun v2 hf => ?_)
      refine lv_icmp_ge (tgt := 45) hx hb dX8_parts_16 (by decide) (fun c3 => ?_) (fun c3 => ?_)
      · have hf := (if_pos c3).mp hf
        refine lv_iload_n hx hb dX8_parts_45 rfl (lv_at hl 1 rfl) ?_
        exact q_retI X hH hr hlk hf (Nat.zero_le _) (Nat.zero_le _) dX8_parts_46
      · have hf := (if_neg c3).mp hf
        refine lv_iload_n hx hb dX8_parts_19 rfl (lv_at hl 1 rfl) ?_
        refine lv_aload_n hx hb dX8_parts_20 rfl (lv_at hl 0 rfl) ?_
        refine lv_iload_n hx hb dX8_parts_21 rfl (lv_at hl 2 rfl) ?_
        obtain ⟨hb1, hb2, hf⟩ := hf
        refine q_backI0 X hH (q_runV [.int l2] [.int l1] X hH hl (c_X8_reached l D cy G X.2.2.2.1 S l0 l2 _ _ hf) mf_X8_reached mv_X8_reached tw_1959 ⟨Nat.le_of_ble_eq_true rfl, Nat.le_of_ble_eq_true rfl⟩ hb1 hb2 (T := TX8) (N := 25) rfl rfl (Nat.le_of_ble_eq_true rfl) dX8_parts_22 ⟨Nat.le_of_ble_eq_true rfl, Nat.le_of_ble_eq_true rfl⟩) (fun v5 S4 hf H locs hH => ?_)
        refine q_backI0 X hH (q_runS [.int v5] [.int l1] X hH hl (c_X8_lowest l D cy G X.2.2.2.1 S4 v5 _ _ hf) mf_X8_lowest tw_1834 tw_1833 ⟨Nat.le_of_ble_eq_true rfl, Nat.le_of_ble_eq_true rfl⟩ rfl (Nat.le_of_ble_eq_true rfl) dX8_parts_25 ⟨Nat.le_of_ble_eq_true rfl, Nat.le_of_ble_eq_true rfl⟩) (fun v7 S6 hf H locs hH => ?_)
        refine lv_iload_n hx hb dX8_parts_28 rfl (lv_at hl 2 rfl) ?_
        refine lv_icmp_ne (tgt := 36) hx hb dX8_parts_29 (by decide) (fun c8 => ?_) (fun c8 => ?_)
        · have hf := (if_neg c8).mp hf
          refine lv_iconst (v := 0) hx hb dX8_parts_36 (by decide) ?_
          exact hJ37 S6 l0 l2 0 l1 hf H locs ls hH (lv_sub hl [0, 2] rfl)
        · have hf := (if_pos c8).mp hf
          refine lv_iconst (v := 1) hx hb dX8_parts_32 (by decide) ?_
          refine lv_goto (tgt := 37) hx hb dX8_parts_33 (by decide) ?_
          exact hJ37 S6 l0 l2 1 l1 hf H locs ls hH (lv_sub hl [0, 2] rfl)
  refine lv_aload_n hx hb dX8_parts_0 rfl (lv_at hl 0 rfl) ?_
  refine lv_iconst (v := 0) hx hb dX8_parts_1 (by decide) ?_
  refine q_putV (T := TX8) (N := 25) (ty0 := tyX8) (ty := tyX8 0) X hH hf iw_X8 tyX8_ok nmX8 rfl (by decide) tw_1609 (fun _ h => h) rfl (tyX8_ok 0 (by decide)) rfl rfl dX8_parts_2 (fun S1 hf H locs hH => ?_)
  refine lv_iconst (v := 0) hx hb dX8_parts_5 (by decide) ?_
  refine lv_istore_n (lv' := [(1, .int 0), (0, .ref a0)]) hx hb dX8_parts_6 rfl hl (by decide) rfl (fun ls hl => ?_)
  refine lv_iconst (v := 0) hx hb dX8_parts_7 (by decide) ?_
  refine lv_istore_n (lv' := [(2, .int 0), (1, .int 0), (0, .ref a0)]) hx hb dX8_parts_8 rfl hl (by decide) rfl (fun ls hl => ?_)
  exact hL9 4096 S1 a0 0 0 hf H locs ls hH (lv_sub hl [2, 1, 0] rfl)
-- X8_partOf
def f_X8_partOf (S : PS) (a0 : Nat) (a1 : Int32) (post : Int32 → PS → Prop) : Prop :=
  isO S a0 12 (
  f_X8_isHouse S a0 a1 fun v2 S1 => (
  isO S1 a0 12 (
  f_X8_isThere S1 a0 v2 fun v4 S3 => (
  if v4 = 0 then
    post 0 S3
  else
    isO S3 a0 12 (
    f_X8_reached S3 a0 a1 fun v7 S6 => (
    post v7 S6))))))
abbrev rm_X8_partOf : Room := { frames := 3, cells := 0, slots := 0, locals := 71 }
set_option maxHeartbeats 4000000 in
set_option maxRecDepth 100000 in
theorem c_X8_partOf (l : Launch) (D : va_G) (cy : Nat → ClassId) (G : p_GT) (hG : p_ok G) (S : PS) (a0 : Nat) (a1 : Int32) (post : Int32 → PS → Prop) (sz : Nat) (hf : f_X8_partOf S a0 a1 post) : p_Mi l D cy G S sz yX8_partOf (Cond.code yX8_partOf cX8_partOf 2 (some .int) :: wG) rm_X8_partOf [.ref a0, .int a1] 0 0 post := by
  refine q_start hG (Qc := fun A => va_Qi post (p_Post D cy A) A) mf_X8_partOf (Nat.le_of_ble_eq_true rfl) (own := RX8) rfl ?_
  intro p e s m below meth c A X hr hlk hnm ls hl hH
  have hx := X.1.1
  have hb := X.1.2.1
  replace hl : lv_has ls 2 [(0, .ref a0), (1, .int a1)] := hl
  obtain ⟨H, hHe⟩ : ∃ H, H = s.heap := ⟨_, rfl⟩
  obtain ⟨locs, hlo⟩ : ∃ locs : List Loc, locs = [] := ⟨_, rfl⟩
  rw [← hHe, ← hlo] at hH
  show W p l e rm_X8_partOf s m [.ref a0, .int a1].toArray below meth c s.heap [] 0 0 _ _
  rw [← hHe, ← hlo]
  refine lv_aload_n hx hb dX8_partOf_0 rfl (lv_at hl 0 rfl) ?_
  refine lv_aload_n hx hb dX8_partOf_1 rfl (lv_at hl 0 rfl) ?_
  refine lv_iload_n hx hb dX8_partOf_2 rfl (lv_at hl 1 rfl) ?_
  obtain ⟨hb1, hb2, hf⟩ := hf
  refine q_backI0 X hH (q_runV [.int a1] [.ref a0] X hH hl (c_X8_isHouse l D cy G X.2.2.2.1 S a0 a1 _ _ hf) mf_X8_isHouse mv_X8_isHouse tw_1737 ⟨Nat.le_of_ble_eq_true rfl, Nat.le_of_ble_eq_true rfl⟩ hb1 hb2 (T := TX8) (N := 25) rfl rfl (Nat.le_of_ble_eq_true rfl) dX8_partOf_3 ⟨Nat.le_of_ble_eq_true rfl, Nat.le_of_ble_eq_true rfl⟩) (fun v2 S1 hf H locs hH => ?_)
  obtain ⟨hb1, hb2, hf⟩ := hf
  refine q_backI0 X hH (q_runV [.int v2] [] X hH hl (c_X8_isThere l D cy G X.2.2.2.1 S1 a0 v2 _ _ hf) mf_X8_isThere mv_X8_isThere tw_1868 ⟨Nat.le_of_ble_eq_true rfl, Nat.le_of_ble_eq_true rfl⟩ hb1 hb2 (T := TX8) (N := 25) rfl rfl (Nat.le_of_ble_eq_true rfl) dX8_partOf_6 ⟨Nat.le_of_ble_eq_true rfl, Nat.le_of_ble_eq_true rfl⟩) (fun v4 S3 hf H locs hH => ?_)
  refine lv_if_eq (tgt := 20) hx hb dX8_partOf_9 (by decide) (fun c5 => ?_) (fun c5 => ?_)
  · have hf := (if_pos c5).mp hf
    refine lv_iconst (v := 0) hx hb dX8_partOf_20 (by decide) ?_
    exact q_retI X hH hr hlk hf (Nat.zero_le _) (Nat.zero_le _) dX8_partOf_21
  · have hf := (if_neg c5).mp hf
    refine lv_aload_n hx hb dX8_partOf_12 rfl (lv_at hl 0 rfl) ?_
    refine lv_iload_n hx hb dX8_partOf_13 rfl (lv_at hl 1 rfl) ?_
    obtain ⟨hb1, hb2, hf⟩ := hf
    refine q_backI0 X hH (q_runV [.int a1] [] X hH hl (c_X8_reached l D cy G X.2.2.2.1 S3 a0 a1 _ _ hf) mf_X8_reached mv_X8_reached tw_1959 ⟨Nat.le_of_ble_eq_true rfl, Nat.le_of_ble_eq_true rfl⟩ hb1 hb2 (T := TX8) (N := 25) rfl rfl (Nat.le_of_ble_eq_true rfl) dX8_partOf_14 ⟨Nat.le_of_ble_eq_true rfl, Nat.le_of_ble_eq_true rfl⟩) (fun v7 S6 hf H locs hH => ?_)
    refine lv_goto (tgt := 21) hx hb dX8_partOf_17 (by decide) ?_
    exact q_retI X hH hr hlk hf (Nat.zero_le _) (Nat.zero_le _) dX8_partOf_21
-- X8_bondWith
def f_X8_bondWith_J117 (post : Int32 → PS → Prop) (g7 : PS → Nat → Int32 → Int32 → Int32 → Int32 → Prop) (S : PS) (l0 : Nat) (l1 : Int32) (l2 : Int32) (l3 : Int32) (l4 : Int32) : Prop :=
  g7 S l0 l1 l2 l3 (l4 + 1)
def f_X8_bondWith_J111 (post : Int32 → PS → Prop) (g24 : PS → Nat → Int32 → Int32 → Int32 → Int32 → Int32 → Prop) (S : PS) (l0 : Nat) (l1 : Int32) (l2 : Int32) (l3 : Int32) (l4 : Int32) (l5 : Int32) : Prop :=
  g24 S l0 l1 l2 l3 l4 (l5 + 1)
def f_X8_bondWith_J110 (post : Int32 → PS → Prop) (g24 : PS → Nat → Int32 → Int32 → Int32 → Int32 → Int32 → Prop) (S : PS) (l0 : Nat) (l1 : Int32) (l2 : Int32) (l4 : Int32) (l5 : Int32) (t0 : Int32) : Prop :=
  f_X8_bondWith_J111 post g24 S l0 l1 l2 t0 l4 l5
def f_X8_bondWith_J109 (post : Int32 → PS → Prop) (g24 : PS → Nat → Int32 → Int32 → Int32 → Int32 → Int32 → Prop) (S : PS) (l0 : Nat) (l1 : Int32) (l2 : Int32) (l3 : Int32) (l4 : Int32) (l5 : Int32) : Prop :=
  f_X8_bondWith_J110 post g24 S l0 l1 l2 l4 l5 l3
def f_X8_bondWith_J98 (post : Int32 → PS → Prop) (g24 : PS → Nat → Int32 → Int32 → Int32 → Int32 → Int32 → Prop) (S : PS) (l0 : Nat) (l1 : Int32) (l2 : Int32) (l4 : Int32) (l5 : Int32) : Prop :=
  f_X8_bondWith_J110 post g24 S l0 l1 l2 l4 l5 (((10 : Int32) * l4) + l5)
def f_X8_bondWith_J54 (post : Int32 → PS → Prop) (S : PS) (l4 : Int32) (l5 : Int32) : Prop :=
  post (((10 : Int32) * l4) + l5) S
def f_X8_bondWith_L24 (post : Int32 → PS → Prop) (g7 : PS → Nat → Int32 → Int32 → Int32 → Int32 → Prop) : Nat → PS → Nat → Int32 → Int32 → Int32 → Int32 → Int32 → Prop
  | 0, _, _, _, _, _, _, _ => False
  | n + 1, S, l0, l1, l2, l3, l4, l5 =>
  gR S l0 12 1 fun v1 => (
  aI S v1 0 0 fun v2 => (
  if v2 ≤ l5 then
    f_X8_bondWith_J117 post g7 S l0 l1 l2 l3 l4
  else
    isO S l0 12 (
    f_X8_w S l0 l4 l5 fun v5 S4 => (
    if v5 = 0 then
      f_X8_bondWith_J111 post (f_X8_bondWith_L24 post g7 n) S4 l0 l1 l2 l3 l4 l5
    else
      if l2 = l1 then
        f_X8_bondWith_J54 post S4 l4 l5
      else
        if 0 ≤ l1 then
          f_X8_bondWith_J109 post (f_X8_bondWith_L24 post g7 n) S4 l0 l1 (l2 + 1) l3 l4 l5
        else
          if l3 = (-1) then
            f_X8_bondWith_J98 post (f_X8_bondWith_L24 post g7 n) S4 l0 l1 (l2 + 1) l4 l5
          else
            isO S4 l0 12 (
            f_X8_w S4 l0 l4 l5 fun v11 S10 => (
            (¬ (10 : Int32) = 0) ∧ (
            (¬ (10 : Int32) = 0) ∧ (
            isO S10 l0 12 (
            f_X8_w S10 l0 (l3 / 10) (l3 - l3 / 10 * 10) fun v13 S12 => (
            if v11 ≤ v13 then
              f_X8_bondWith_J109 post (f_X8_bondWith_L24 post g7 n) S12 l0 l1 (l2 + 1) l3 l4 l5
            else
              f_X8_bondWith_J98 post (f_X8_bondWith_L24 post g7 n) S12 l0 l1 (l2 + 1) l4 l5))))))))))
def f_X8_bondWith_L7 (post : Int32 → PS → Prop) : Nat → PS → Nat → Int32 → Int32 → Int32 → Int32 → Prop
  | 0, _, _, _, _, _, _ => False
  | n + 1, S, l0, l1, l2, l3, l4 =>
  gR S l0 12 1 fun v1 => (
  aI S v1 0 0 fun v2 => (
  if v2 ≤ l4 then
    post l3 S
  else
    f_X8_bondWith_L24 post (f_X8_bondWith_L7 post n) 4096 S l0 l1 l2 l3 l4 (l4 + 1)))
def f_X8_bondWith (S : PS) (a0 : Nat) (a1 : Int32) (post : Int32 → PS → Prop) : Prop :=
  f_X8_bondWith_L7 post 4096 S a0 a1 0 (-1) 0
abbrev rm_X8_bondWith : Room := { frames := 1, cells := 0, slots := 0, locals := 22 }
set_option maxHeartbeats 4000000 in
set_option maxRecDepth 100000 in
theorem c_X8_bondWith (l : Launch) (D : va_G) (cy : Nat → ClassId) (G : p_GT) (hG : p_ok G) (S : PS) (a0 : Nat) (a1 : Int32) (post : Int32 → PS → Prop) (sz : Nat) (hf : f_X8_bondWith S a0 a1 post) : p_Mi l D cy G S sz yX8_bondWith (Cond.code yX8_bondWith cX8_bondWith 6 (some .int) :: wG) rm_X8_bondWith [.ref a0, .int a1] 0 0 post := by
  refine q_start hG (Qc := fun A => va_Qi post (p_Post D cy A) A) mf_X8_bondWith (Nat.le_of_ble_eq_true rfl) (own := RX8) rfl ?_
  intro p e s m below meth c A X hr hlk hnm ls hl hH
  have hx := X.1.1
  have hb := X.1.2.1
  replace hl : lv_has ls 6 [(0, .ref a0), (1, .int a1)] := hl
  obtain ⟨H, hHe⟩ : ∃ H, H = s.heap := ⟨_, rfl⟩
  obtain ⟨locs, hlo⟩ : ∃ locs : List Loc, locs = [] := ⟨_, rfl⟩
  rw [← hHe, ← hlo] at hH
  show W p l e rm_X8_bondWith s m [.ref a0, .int a1].toArray below meth c s.heap [] 0 0 _ _
  rw [← hHe, ← hlo]
  have hL7 : ∀ (n7 : Nat) (S : PS) (l0 : Nat) (l1 : Int32) (l2 : Int32) (l3 : Int32) (l4 : Int32), f_X8_bondWith_L7 post n7 S l0 l1 l2 l3 l4 → ∀ (H : Heap) (locs : List Loc) (ls : Array Slot), p_H D cy S A s H locs → lv_has ls 6 [(0, .ref l0), (1, .int l1), (2, .int l2), (3, .int l3), (4, .int l4)] → W p l e rm_X8_bondWith s m [.ref a0, .int a1].toArray below meth c H locs 0 0 (MQ below (va_Qi post (p_Post D cy A) A) [.ref a0, .int a1].toArray s 0 0 A) (F0 m 7 ls []) := by
    intro n7
    induction n7 with
    | zero => intro S l0 l1 l2 l3 l4 hf; exact hf.elim
    | succ n7 ih7 =>
      intro S l0 l1 l2 l3 l4 hf H locs ls hH hl
      have hL24 : ∀ (n24 : Nat) (S : PS) (l0 : Nat) (l1 : Int32) (l2 : Int32) (l3 : Int32) (l4 : Int32) (l5 : Int32), f_X8_bondWith_L24 post (f_X8_bondWith_L7 post n7) n24 S l0 l1 l2 l3 l4 l5 → ∀ (H : Heap) (locs : List Loc) (ls : Array Slot), p_H D cy S A s H locs → lv_has ls 6 [(0, .ref l0), (1, .int l1), (2, .int l2), (3, .int l3), (4, .int l4), (5, .int l5)] → W p l e rm_X8_bondWith s m [.ref a0, .int a1].toArray below meth c H locs 0 0 (MQ below (va_Qi post (p_Post D cy A) A) [.ref a0, .int a1].toArray s 0 0 A) (F0 m 24 ls []) := by
        intro n24
        induction n24 with
        | zero => intro S l0 l1 l2 l3 l4 l5 hf; exact hf.elim
        | succ n24 ih24 =>
          intro S l0 l1 l2 l3 l4 l5 hf H locs ls hH hl
          have hJ117 : ∀ (S : PS) (l0 : Nat) (l1 : Int32) (l2 : Int32) (l3 : Int32) (l4 : Int32), f_X8_bondWith_J117 post (f_X8_bondWith_L7 post n7) S l0 l1 l2 l3 l4 → ∀ (H : Heap) (locs : List Loc) (ls : Array Slot), p_H D cy S A s H locs → lv_has ls 6 [(0, .ref l0), (1, .int l1), (2, .int l2), (3, .int l3), (4, .int l4)] → W p l e rm_X8_bondWith s m [.ref a0, .int a1].toArray below meth c H locs 0 0 (MQ below (va_Qi post (p_Post D cy A) A) [.ref a0, .int a1].toArray s 0 0 A) (F0 m 117 ls []) := by
            intro S l0 l1 l2 l3 l4 hf H locs ls hH hl
            refine lv_iinc (v := l4 + 1) (lv' := [(4, .int (l4 + 1)), (0, .ref l0), (1, .int l1), (2, .int l2), (3, .int l3)]) hx hb dX8_bondWith_117 hl (k := 4) rfl rfl (by decide) rfl (fun ls hl => ?_)
            refine lv_goto (tgt := 7) hx hb dX8_bondWith_120 (by decide) ?_
            exact ih7 S l0 l1 l2 l3 (l4 + 1) hf H locs ls hH (lv_sub hl [1, 2, 3, 4, 0] rfl)
          have hJ111 : ∀ (S : PS) (l0 : Nat) (l1 : Int32) (l2 : Int32) (l3 : Int32) (l4 : Int32) (l5 : Int32), f_X8_bondWith_J111 post (f_X8_bondWith_L24 post (f_X8_bondWith_L7 post n7) n24) S l0 l1 l2 l3 l4 l5 → ∀ (H : Heap) (locs : List Loc) (ls : Array Slot), p_H D cy S A s H locs → lv_has ls 6 [(0, .ref l0), (1, .int l1), (2, .int l2), (3, .int l3), (4, .int l4), (5, .int l5)] → W p l e rm_X8_bondWith s m [.ref a0, .int a1].toArray below meth c H locs 0 0 (MQ below (va_Qi post (p_Post D cy A) A) [.ref a0, .int a1].toArray s 0 0 A) (F0 m 111 ls []) := by
            intro S l0 l1 l2 l3 l4 l5 hf H locs ls hH hl
            refine lv_iinc (v := l5 + 1) (lv' := [(5, .int (l5 + 1)), (0, .ref l0), (1, .int l1), (2, .int l2), (3, .int l3), (4, .int l4)]) hx hb dX8_bondWith_111 hl (k := 5) rfl rfl (by decide) rfl (fun ls hl => ?_)
            refine lv_goto (tgt := 24) hx hb dX8_bondWith_114 (by decide) ?_
            exact ih24 S l0 l1 l2 l3 l4 (l5 + 1) hf H locs ls hH (lv_sub hl [1, 2, 3, 4, 5, 0] rfl)
          have hJ110 : ∀ (S : PS) (l0 : Nat) (l1 : Int32) (l2 : Int32) (l4 : Int32) (l5 : Int32) (t0 : Int32), f_X8_bondWith_J110 post (f_X8_bondWith_L24 post (f_X8_bondWith_L7 post n7) n24) S l0 l1 l2 l4 l5 t0 → ∀ (H : Heap) (locs : List Loc) (ls : Array Slot), p_H D cy S A s H locs → lv_has ls 6 [(0, .ref l0), (1, .int l1), (2, .int l2), (4, .int l4), (5, .int l5)] → W p l e rm_X8_bondWith s m [.ref a0, .int a1].toArray below meth c H locs 0 0 (MQ below (va_Qi post (p_Post D cy A) A) [.ref a0, .int a1].toArray s 0 0 A) (F0 m 110 ls [.int t0]) := by
            intro S l0 l1 l2 l4 l5 t0 hf H locs ls hH hl
            refine lv_istore_n (lv' := [(3, .int t0), (0, .ref l0), (1, .int l1), (2, .int l2), (4, .int l4), (5, .int l5)]) hx hb dX8_bondWith_110 rfl hl (by decide) rfl (fun ls hl => ?_)
            exact hJ111 S l0 l1 l2 t0 l4 l5 hf H locs ls hH (lv_sub hl [1, 2, 3, 0, 4, 5] rfl)
          have hJ109 : ∀ (S : PS) (l0 : Nat) (l1 : Int32) (l2 : Int32) (l3 : Int32) (l4 : Int32) (l5 : Int32), f_X8_bondWith_J109 post (f_X8_bondWith_L24 post (f_X8_bondWith_L7 post n7) n24) S l0 l1 l2 l3 l4 l5 → ∀ (H : Heap) (locs : List Loc) (ls : Array Slot), p_H D cy S A s H locs → lv_has ls 6 [(0, .ref l0), (1, .int l1), (2, .int l2), (3, .int l3), (4, .int l4), (5, .int l5)] → W p l e rm_X8_bondWith s m [.ref a0, .int a1].toArray below meth c H locs 0 0 (MQ below (va_Qi post (p_Post D cy A) A) [.ref a0, .int a1].toArray s 0 0 A) (F0 m 109 ls []) := by
            intro S l0 l1 l2 l3 l4 l5 hf H locs ls hH hl
            refine lv_iload_n hx hb dX8_bondWith_109 rfl (lv_at hl 3 rfl) ?_
            exact hJ110 S l0 l1 l2 l4 l5 l3 hf H locs ls hH (lv_sub hl [0, 1, 2, 4, 5] rfl)
          have hJ98 : ∀ (S : PS) (l0 : Nat) (l1 : Int32) (l2 : Int32) (l4 : Int32) (l5 : Int32), f_X8_bondWith_J98 post (f_X8_bondWith_L24 post (f_X8_bondWith_L7 post n7) n24) S l0 l1 l2 l4 l5 → ∀ (H : Heap) (locs : List Loc) (ls : Array Slot), p_H D cy S A s H locs → lv_has ls 6 [(0, .ref l0), (1, .int l1), (2, .int l2), (4, .int l4), (5, .int l5)] → W p l e rm_X8_bondWith s m [.ref a0, .int a1].toArray below meth c H locs 0 0 (MQ below (va_Qi post (p_Post D cy A) A) [.ref a0, .int a1].toArray s 0 0 A) (F0 m 98 ls []) := by
            intro S l0 l1 l2 l4 l5 hf H locs ls hH hl
            refine lv_bipush (v := 10) hx hb dX8_bondWith_98 (by decide) ?_
            refine lv_iload hx hb dX8_bondWith_100 (lv_at hl 3 rfl) ?_
            refine lv_imul hx hb dX8_bondWith_102 ?_
            refine lv_iload hx hb dX8_bondWith_103 (lv_at hl 4 rfl) ?_
            refine lv_iadd hx hb dX8_bondWith_105 ?_
            refine lv_goto (tgt := 110) hx hb dX8_bondWith_106 (by decide) ?_
            exact hJ110 S l0 l1 l2 l4 l5 (((10 : Int32) * l4) + l5) hf H locs ls hH hl
          have hJ54 : ∀ (S : PS) (l4 : Int32) (l5 : Int32), f_X8_bondWith_J54 post S l4 l5 → ∀ (H : Heap) (locs : List Loc) (ls : Array Slot), p_H D cy S A s H locs → lv_has ls 6 [(4, .int l4), (5, .int l5)] → W p l e rm_X8_bondWith s m [.ref a0, .int a1].toArray below meth c H locs 0 0 (MQ below (va_Qi post (p_Post D cy A) A) [.ref a0, .int a1].toArray s 0 0 A) (F0 m 54 ls []) := by
            intro S l4 l5 hf H locs ls hH hl
            refine lv_bipush (v := 10) hx hb dX8_bondWith_54 (by decide) ?_
            refine lv_iload hx hb dX8_bondWith_56 (lv_at hl 0 rfl) ?_
            refine lv_imul hx hb dX8_bondWith_58 ?_
            refine lv_iload hx hb dX8_bondWith_59 (lv_at hl 1 rfl) ?_
            refine lv_iadd hx hb dX8_bondWith_61 ?_
            exact q_retI X hH hr hlk hf (Nat.zero_le _) (Nat.zero_le _) dX8_bondWith_62
          refine lv_iload hx hb dX8_bondWith_24 (lv_at hl 5 rfl) ?_
          refine lv_aload_n hx hb dX8_bondWith_26 rfl (lv_at hl 0 rfl) ?_
          refine q_getR (T := TX8) (N := 25) X hH hf iw_X8 rfl (by decide) tw_1610 (fun _ h => h) dX8_bondWith_27 (fun v1 hf => ?_)
          refine lv_iconst (v := 0) hx hb dX8_bondWith_30 (by decide) ?_
          refine q_iald X hH hf dX8_bondWith_31 (fun v2 hf => ?_)
          refine lv_icmp_ge (tgt := 117) hx hb dX8_bondWith_32 (by decide) (fun c3 => ?_) (fun c3 => ?_)
          · have hf := (if_pos c3).mp hf
            exact hJ117 S l0 l1 l2 l3 l4 hf H locs ls hH (lv_sub hl [0, 1, 2, 3, 4] rfl)
          · have hf := (if_neg c3).mp hf
            refine lv_aload_n hx hb dX8_bondWith_35 rfl (lv_at hl 0 rfl) ?_
            refine lv_iload hx hb dX8_bondWith_36 (lv_at hl 4 rfl) ?_
            refine lv_iload hx hb dX8_bondWith_38 (lv_at hl 5 rfl) ?_
            obtain ⟨hb1, hb2, hf⟩ := hf
            refine q_backI0 X hH (q_runV [.int l4, .int l5] [] X hH hl (c_X8_w l D cy G X.2.2.2.1 S l0 l4 l5 _ _ hf) mf_X8_w mv_X8_w tw_1745 ⟨Nat.le_of_ble_eq_true rfl, Nat.le_of_ble_eq_true rfl⟩ hb1 hb2 (T := TX8) (N := 25) rfl rfl (Nat.le_of_ble_eq_true rfl) dX8_bondWith_40 ⟨Nat.le_of_ble_eq_true rfl, Nat.le_of_ble_eq_true rfl⟩) (fun v5 S4 hf H locs hH => ?_)
            refine lv_if_ne (tgt := 49) hx hb dX8_bondWith_43 (by decide) (fun c6 => ?_) (fun c6 => ?_)
            · have hf := (if_neg c6).mp hf
              refine lv_iload_n hx hb dX8_bondWith_49 rfl (lv_at hl 2 rfl) ?_
              refine lv_iload_n hx hb dX8_bondWith_50 rfl (lv_at hl 1 rfl) ?_
              refine lv_icmp_ne (tgt := 63) hx hb dX8_bondWith_51 (by decide) (fun c7 => ?_) (fun c7 => ?_)
              · have hf := (if_neg c7).mp hf
                refine lv_iinc (v := l2 + 1) (lv' := [(2, .int (l2 + 1)), (0, .ref l0), (1, .int l1), (3, .int l3), (4, .int l4), (5, .int l5)]) hx hb dX8_bondWith_63 hl (k := 2) rfl rfl (by decide) rfl (fun ls hl => ?_)
                refine lv_iload_n hx hb dX8_bondWith_66 rfl (lv_at hl 2 rfl) ?_
                refine lv_if_ge (tgt := 109) hx hb dX8_bondWith_67 (by decide) (fun c8 => ?_) (fun c8 => ?_)
                · have hf := (if_pos c8).mp hf
                  exact hJ109 S4 l0 l1 (l2 + 1) l3 l4 l5 hf H locs ls hH (lv_sub hl [1, 2, 0, 3, 4, 5] rfl)
                · have hf := (if_neg c8).mp hf
                  refine lv_iload_n hx hb dX8_bondWith_70 rfl (lv_at hl 3 rfl) ?_
                  refine lv_iconst (v := (-1)) hx hb dX8_bondWith_71 (by decide) ?_
                  refine lv_icmp_eq (tgt := 98) hx hb dX8_bondWith_72 (by decide) (fun c9 => ?_) (fun c9 => ?_)
                  · have hf := (if_pos c9).mp hf
                    exact hJ98 S4 l0 l1 (l2 + 1) l4 l5 hf H locs ls hH (lv_sub hl [1, 2, 0, 4, 5] rfl)
                  · have hf := (if_neg c9).mp hf
                    refine lv_aload_n hx hb dX8_bondWith_75 rfl (lv_at hl 1 rfl) ?_
                    refine lv_iload hx hb dX8_bondWith_76 (lv_at hl 4 rfl) ?_
                    refine lv_iload hx hb dX8_bondWith_78 (lv_at hl 5 rfl) ?_
                    obtain ⟨hb1, hb2, hf⟩ := hf
                    refine q_backI0 X hH (q_runV [.int l4, .int l5] [] X hH hl (c_X8_w l D cy G X.2.2.2.1 S4 l0 l4 l5 _ _ hf) mf_X8_w mv_X8_w tw_1745 ⟨Nat.le_of_ble_eq_true rfl, Nat.le_of_ble_eq_true rfl⟩ hb1 hb2 (T := TX8) (N := 25) rfl rfl (Nat.le_of_ble_eq_true rfl) dX8_bondWith_80 ⟨Nat.le_of_ble_eq_true rfl, Nat.le_of_ble_eq_true rfl⟩) (fun v11 S10 hf H locs hH => ?_)
                    refine lv_aload_n hx hb dX8_bondWith_83 rfl (lv_at hl 1 rfl) ?_
                    refine lv_iload_n hx hb dX8_bondWith_84 rfl (lv_at hl 3 rfl) ?_
                    refine lv_bipush (v := 10) hx hb dX8_bondWith_85 (by decide) ?_
                    refine lv_idiv hx hb dX8_bondWith_87 hf.1 ?_
                    have hf := hf.2
                    refine lv_iload_n hx hb dX8_bondWith_88 rfl (lv_at hl 3 rfl) ?_
                    refine lv_bipush (v := 10) hx hb dX8_bondWith_89 (by decide) ?_
                    refine lv_irem hx hb dX8_bondWith_91 hf.1 ?_
                    have hf := hf.2
                    obtain ⟨hb1, hb2, hf⟩ := hf
                    refine q_backI0 X hH (q_runV [.int (l3 / 10), .int (l3 - l3 / 10 * 10)] [.int v11] X hH hl (c_X8_w l D cy G X.2.2.2.1 S10 l0 (l3 / 10) (l3 - l3 / 10 * 10) _ _ hf) mf_X8_w mv_X8_w tw_1745 ⟨Nat.le_of_ble_eq_true rfl, Nat.le_of_ble_eq_true rfl⟩ hb1 hb2 (T := TX8) (N := 25) rfl rfl (Nat.le_of_ble_eq_true rfl) dX8_bondWith_92 ⟨Nat.le_of_ble_eq_true rfl, Nat.le_of_ble_eq_true rfl⟩) (fun v13 S12 hf H locs hH => ?_)
                    refine lv_icmp_le (tgt := 109) hx hb dX8_bondWith_95 (by decide) (fun c14 => ?_) (fun c14 => ?_)
                    · have hf := (if_pos c14).mp hf
                      exact hJ109 S12 l0 l1 (l2 + 1) l3 l4 l5 hf H locs ls hH (lv_sub hl [1, 2, 0, 3, 4, 5] rfl)
                    · have hf := (if_neg c14).mp hf
                      exact hJ98 S12 l0 l1 (l2 + 1) l4 l5 hf H locs ls hH (lv_sub hl [1, 2, 0, 4, 5] rfl)
              · have hf := (if_pos c7).mp hf
                exact hJ54 S4 l4 l5 hf H locs ls hH (lv_sub hl [4, 5] rfl)
            · have hf := (if_pos c6).mp hf
              refine lv_goto (tgt := 111) hx hb dX8_bondWith_46 (by decide) ?_
              exact hJ111 S4 l0 l1 l2 l3 l4 l5 hf H locs ls hH hl
      refine lv_iload hx hb dX8_bondWith_7 (lv_at hl 4 rfl) ?_
      refine lv_aload_n hx hb dX8_bondWith_9 rfl (lv_at hl 0 rfl) ?_
      refine q_getR (T := TX8) (N := 25) X hH hf iw_X8 rfl (by decide) tw_1610 (fun _ h => h) dX8_bondWith_10 (fun v1 hf => ?_)
      refine lv_iconst (v := 0) hx hb dX8_bondWith_13 (by decide) ?_
      refine q_iald X hH hf dX8_bondWith_14 (fun v2 hf => ?_)
      refine lv_icmp_ge (tgt := 123) hx hb dX8_bondWith_15 (by decide) (fun c3 => ?_) (fun c3 => ?_)
      · have hf := (if_pos c3).mp hf
        refine lv_iload_n hx hb dX8_bondWith_123 rfl (lv_at hl 3 rfl) ?_
        exact q_retI X hH hr hlk hf (Nat.zero_le _) (Nat.zero_le _) dX8_bondWith_124
      · have hf := (if_neg c3).mp hf
        refine lv_iload hx hb dX8_bondWith_18 (lv_at hl 4 rfl) ?_
        refine lv_iconst (v := 1) hx hb dX8_bondWith_20 (by decide) ?_
        refine lv_iadd hx hb dX8_bondWith_21 ?_
        refine lv_istore (lv' := [(5, .int (l4 + 1)), (0, .ref l0), (1, .int l1), (2, .int l2), (3, .int l3), (4, .int l4)]) hx hb dX8_bondWith_22 hl (by decide) rfl (fun ls hl => ?_)
        exact hL24 4096 S l0 l1 l2 l3 l4 (l4 + 1) hf H locs ls hH (lv_sub hl [1, 2, 3, 4, 5, 0] rfl)
  refine lv_iconst (v := 0) hx hb dX8_bondWith_0 (by decide) ?_
  refine lv_istore_n (lv' := [(2, .int 0), (0, .ref a0), (1, .int a1)]) hx hb dX8_bondWith_1 rfl hl (by decide) rfl (fun ls hl => ?_)
  refine lv_iconst (v := (-1)) hx hb dX8_bondWith_2 (by decide) ?_
  refine lv_istore_n (lv' := [(3, .int ((-1))), (2, .int 0), (0, .ref a0), (1, .int a1)]) hx hb dX8_bondWith_3 rfl hl (by decide) rfl (fun ls hl => ?_)
  refine lv_iconst (v := 0) hx hb dX8_bondWith_4 (by decide) ?_
  refine lv_istore (lv' := [(4, .int 0), (3, .int ((-1))), (2, .int 0), (0, .ref a0), (1, .int a1)]) hx hb dX8_bondWith_5 hl (by decide) rfl (fun ls hl => ?_)
  exact hL7 4096 S a0 a1 0 (-1) 0 hf H locs ls hH (lv_sub hl [3, 4, 2, 1, 0] rfl)
