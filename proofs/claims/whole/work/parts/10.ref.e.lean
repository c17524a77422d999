-- X8_bondAt
def f_X8_bondAt_J25 (post : Int32 → PS → Prop) (S : PS) (l2 : Int32) (t0 : Int32) (t1 : Nat) : Prop :=
  isO S t1 12 (
  f_X8_isThere S t1 t0 fun v2 S1 => (
  if v2 = 0 then
    post 0 S1
  else
    post l2 S1))
def f_X8_bondAt_J13 (post : Int32 → PS → Prop) (S : PS) (l0 : Nat) (t0 : Int32) : Prop :=
  if t0 = (-1) then
    f_X8_bondAt_J25 post S t0 0 l0
  else
    f_X8_bondAt_J25 post S t0 1 l0
def f_X8_bondAt (S : PS) (a0 : Nat) (a1 : Int32) (post : Int32 → PS → Prop) : Prop :=
  if 0 ≤ a1 then
    isO S a0 12 (
    f_X8_bondWith S a0 a1 fun v3 S2 => (
    f_X8_bondAt_J13 post S2 a0 v3))
  else
    f_X8_bondAt_J13 post S a0 (-1)
abbrev rm_X8_bondAt : Room := { frames := 2, cells := 0, slots := 0, locals := 47 }
set_option maxHeartbeats 4000000 in
set_option maxRecDepth 100000 in
theorem c_X8_bondAt (l : Launch) (D : va_G) (cy : Nat → ClassId) (G : p_GT) (hG : p_ok G) (S : PS) (a0 : Nat) (a1 : Int32) (post : Int32 → PS → Prop) (sz : Nat) (hf : f_X8_bondAt S a0 a1 post) : p_Mi l D cy G S sz yX8_bondAt (Cond.code yX8_bondAt cX8_bondAt 3 (some .int) :: wG) rm_X8_bondAt [.ref a0, .int a1] 0 0 post := by
  refine q_start hG (Qc := fun A => va_Qi post (p_Post D cy A) A) mf_X8_bondAt (Nat.le_of_ble_eq_true rfl) (own := RX8) rfl ?_
  intro p e s m below meth c A X hr hlk hnm ls hl hH
  have hx := X.1.1
  have hb := X.1.2.1
  replace hl : lv_has ls 3 [(0, .ref a0), (1, .int a1)] := hl
  obtain ⟨H, hHe⟩ : ∃ H, H = s.heap := ⟨_, rfl⟩
  obtain ⟨locs, hlo⟩ : ∃ locs : List Loc, locs = [] := ⟨_, rfl⟩
  rw [← hHe, ← hlo] at hH
  show W p l e rm_X8_bondAt s m [.ref a0, .int a1].toArray below meth c s.heap [] 0 0 _ _
  rw [← hHe, ← hlo]
  have hJ13 : ∀ (S : PS) (l0 : Nat) (t0 : Int32), f_X8_bondAt_J13 post S l0 t0 → ∀ (H : Heap) (locs : List Loc) (ls : Array Slot), p_H D cy S A s H locs → lv_has ls 3 [(0, .ref l0)] → W p l e rm_X8_bondAt s m [.ref a0, .int a1].toArray below meth c H locs 0 0 (MQ below (va_Qi post (p_Post D cy A) A) [.ref a0, .int a1].toArray s 0 0 A) (F0 m 13 ls [.int t0]) := by
    intro S l0 t0 hf H locs ls hH hl
    have hJ25 : ∀ (S : PS) (l2 : Int32) (t0 : Int32) (t1 : Nat), f_X8_bondAt_J25 post S l2 t0 t1 → ∀ (H : Heap) (locs : List Loc) (ls : Array Slot), p_H D cy S A s H locs → lv_has ls 3 [(2, .int l2)] → W p l e rm_X8_bondAt s m [.ref a0, .int a1].toArray below meth c H locs 0 0 (MQ below (va_Qi post (p_Post D cy A) A) [.ref a0, .int a1].toArray s 0 0 A) (F0 m 25 ls [.int t0, .ref t1]) := by
      intro S l2 t0 t1 hf H locs ls hH hl
      obtain ⟨hb1, hb2, hf⟩ := hf
      refine q_backI0 X hH (q_runV [.int t0] [] X hH hl (c_X8_isThere l D cy G X.2.2.2.1 S t1 t0 _ _ hf) mf_X8_isThere mv_X8_isThere tw_1868 ⟨Nat.le_of_ble_eq_true rfl, Nat.le_of_ble_eq_true rfl⟩ hb1 hb2 (T := TX8) (N := 25) rfl rfl (Nat.le_of_ble_eq_true rfl) dX8_bondAt_25 ⟨Nat.le_of_ble_eq_true rfl, Nat.le_of_ble_eq_true rfl⟩) (fun v2 S1 hf H locs hH => ?_)
      refine lv_if_eq (tgt := 35) hx hb dX8_bondAt_28 (by decide) (fun c3 => ?_) (fun c3 => ?_)
      · have hf := (if_pos c3).mp hf
        refine lv_iconst (v := 0) hx hb dX8_bondAt_35 (by decide) ?_
        exact q_retI X hH hr hlk hf (Nat.zero_le _) (Nat.zero_le _) dX8_bondAt_36
      · have hf := (if_neg c3).mp hf
        refine lv_iload_n hx hb dX8_bondAt_31 rfl (lv_at hl 0 rfl) ?_
        refine lv_goto (tgt := 36) hx hb dX8_bondAt_32 (by decide) ?_
        exact q_retI X hH hr hlk hf (Nat.zero_le _) (Nat.zero_le _) dX8_bondAt_36
    refine lv_istore_n (lv' := [(2, .int t0), (0, .ref l0)]) hx hb dX8_bondAt_13 rfl hl (by decide) rfl (fun ls hl => ?_)
    refine lv_aload_n hx hb dX8_bondAt_14 rfl (lv_at hl 1 rfl) ?_
    refine lv_iload_n hx hb dX8_bondAt_15 rfl (lv_at hl 0 rfl) ?_
    refine lv_iconst (v := (-1)) hx hb dX8_bondAt_16 (by decide) ?_
    refine lv_icmp_eq (tgt := 24) hx hb dX8_bondAt_17 (by decide) (fun c1 => ?_) (fun c1 => ?_)
    · have hf := (if_pos c1).mp hf
      refine lv_iconst (v := 0) hx hb dX8_bondAt_24 (by decide) ?_
      exact hJ25 S t0 0 l0 hf H locs ls hH (lv_sub hl [0] rfl)
    · have hf := (if_neg c1).mp hf
      refine lv_iconst (v := 1) hx hb dX8_bondAt_20 (by decide) ?_
      refine lv_goto (tgt := 25) hx hb dX8_bondAt_21 (by decide) ?_
      exact hJ25 S t0 1 l0 hf H locs ls hH (lv_sub hl [0] rfl)
  refine lv_iload_n hx hb dX8_bondAt_0 rfl (lv_at hl 1 rfl) ?_
  refine lv_if_ge (tgt := 8) hx hb dX8_bondAt_1 (by decide) (fun c1 => ?_) (fun c1 => ?_)
  · have hf := (if_pos c1).mp hf
    refine lv_aload_n hx hb dX8_bondAt_8 rfl (lv_at hl 0 rfl) ?_
    refine lv_iload_n hx hb dX8_bondAt_9 rfl (lv_at hl 1 rfl) ?_
    obtain ⟨hb1, hb2, hf⟩ := hf
    refine q_backI0 X hH (q_runV [.int a1] [] X hH hl (c_X8_bondWith l D cy G X.2.2.2.1 S a0 a1 _ _ hf) mf_X8_bondWith mv_X8_bondWith tw_1971 ⟨Nat.le_of_ble_eq_true rfl, Nat.le_of_ble_eq_true rfl⟩ hb1 hb2 (T := TX8) (N := 25) rfl rfl (Nat.le_of_ble_eq_true rfl) dX8_bondAt_10 ⟨Nat.le_of_ble_eq_true rfl, Nat.le_of_ble_eq_true rfl⟩) (fun v3 S2 hf H locs hH => ?_)
    exact hJ13 S2 a0 v3 hf H locs ls hH (lv_sub hl [0] rfl)
  · have hf := (if_neg c1).mp hf
    refine lv_iconst (v := (-1)) hx hb dX8_bondAt_4 (by decide) ?_
    refine lv_goto (tgt := 13) hx hb dX8_bondAt_5 (by decide) ?_
    exact hJ13 S a0 (-1) hf H locs ls hH (lv_sub hl [0] rfl)
-- X8_heaviest
def f_X8_heaviest_J17 (post : Int32 → PS → Prop) (S : PS) (l1 : Int32) (t0 : Int32) (t1 : Nat) : Prop :=
  isO S t1 12 (
  f_X8_isThere S t1 t0 fun v2 S1 => (
  if v2 = 0 then
    post 0 S1
  else
    post l1 S1))
def f_X8_heaviest (S : PS) (a0 : Nat) (post : Int32 → PS → Prop) : Prop :=
  isO S a0 12 (
  f_X8_bondWith S a0 (-1) fun v2 S1 => (
  if v2 = (-1) then
    f_X8_heaviest_J17 post S1 v2 0 a0
  else
    f_X8_heaviest_J17 post S1 v2 1 a0))
abbrev rm_X8_heaviest : Room := { frames := 2, cells := 0, slots := 0, locals := 47 }
set_option maxHeartbeats 4000000 in
set_option maxRecDepth 100000 in
theorem c_X8_heaviest (l : Launch) (D : va_G) (cy : Nat → ClassId) (G : p_GT) (hG : p_ok G) (S : PS) (a0 : Nat) (post : Int32 → PS → Prop) (sz : Nat) (hf : f_X8_heaviest S a0 post) : p_Mi l D cy G S sz yX8_heaviest (Cond.code yX8_heaviest cX8_heaviest 2 (some .int) :: wG) rm_X8_heaviest [.ref a0] 0 0 post := by
  refine q_start hG (Qc := fun A => va_Qi post (p_Post D cy A) A) mf_X8_heaviest (Nat.le_of_ble_eq_true rfl) (own := RX8) rfl ?_
  intro p e s m below meth c A X hr hlk hnm ls hl hH
  have hx := X.1.1
  have hb := X.1.2.1
  replace hl : lv_has ls 2 [(0, .ref a0)] := hl
  obtain ⟨H, hHe⟩ : ∃ H, H = s.heap := ⟨_, rfl⟩
  obtain ⟨locs, hlo⟩ : ∃ locs : List Loc, locs = [] := ⟨_, rfl⟩
  rw [← hHe, ← hlo] at hH
  show W p l e rm_X8_heaviest s m [.ref a0].toArray below meth c s.heap [] 0 0 _ _
  rw [← hHe, ← hlo]
  have hJ17 : ∀ (S : PS) (l1 : Int32) (t0 : Int32) (t1 : Nat), f_X8_heaviest_J17 post S l1 t0 t1 → ∀ (H : Heap) (locs : List Loc) (ls : Array Slot), p_H D cy S A s H locs → lv_has ls 2 [(1, .int l1)] → W p l e rm_X8_heaviest s m [.ref a0].toArray below meth c H locs 0 0 (MQ below (va_Qi post (p_Post D cy A) A) [.ref a0].toArray s 0 0 A) (F0 m 17 ls [.int t0, .ref t1]) := by
    intro S l1 t0 t1 hf H locs ls hH hl
    obtain ⟨hb1, hb2, hf⟩ := hf
    refine q_backI0 X hH (q_runV [.int t0] [] X hH hl (c_X8_isThere l D cy G X.2.2.2.1 S t1 t0 _ _ hf) mf_X8_isThere mv_X8_isThere tw_1868 ⟨Nat.le_of_ble_eq_true rfl, Nat.le_of_ble_eq_true rfl⟩ hb1 hb2 (T := TX8) (N := 25) rfl rfl (Nat.le_of_ble_eq_true rfl) dX8_heaviest_17 ⟨Nat.le_of_ble_eq_true rfl, Nat.le_of_ble_eq_true rfl⟩) (fun v2 S1 hf H locs hH => ?_)
    refine lv_if_eq (tgt := 27) hx hb dX8_heaviest_20 (by decide) (fun c3 => ?_) (fun c3 => ?_)
    · have hf := (if_pos c3).mp hf
      refine lv_iconst (v := 0) hx hb dX8_heaviest_27 (by decide) ?_
      exact q_retI X hH hr hlk hf (Nat.zero_le _) (Nat.zero_le _) dX8_heaviest_28
    · have hf := (if_neg c3).mp hf
      refine lv_iload_n hx hb dX8_heaviest_23 rfl (lv_at hl 0 rfl) ?_
      refine lv_goto (tgt := 28) hx hb dX8_heaviest_24 (by decide) ?_
      exact q_retI X hH hr hlk hf (Nat.zero_le _) (Nat.zero_le _) dX8_heaviest_28
  refine lv_aload_n hx hb dX8_heaviest_0 rfl (lv_at hl 0 rfl) ?_
  refine lv_iconst (v := (-1)) hx hb dX8_heaviest_1 (by decide) ?_
  obtain ⟨hb1, hb2, hf⟩ := hf
  refine q_backI0 X hH (q_runV [.int ((-1))] [] X hH hl (c_X8_bondWith l D cy G X.2.2.2.1 S a0 (-1) _ _ hf) mf_X8_bondWith mv_X8_bondWith tw_1971 ⟨Nat.le_of_ble_eq_true rfl, Nat.le_of_ble_eq_true rfl⟩ hb1 hb2 (T := TX8) (N := 25) rfl rfl (Nat.le_of_ble_eq_true rfl) dX8_heaviest_2 ⟨Nat.le_of_ble_eq_true rfl, Nat.le_of_ble_eq_true rfl⟩) (fun v2 S1 hf H locs hH => ?_)
  refine lv_istore_n (lv' := [(1, .int v2), (0, .ref a0)]) hx hb dX8_heaviest_5 rfl hl (by decide) rfl (fun ls hl => ?_)
  refine lv_aload_n hx hb dX8_heaviest_6 rfl (lv_at hl 1 rfl) ?_
  refine lv_iload_n hx hb dX8_heaviest_7 rfl (lv_at hl 0 rfl) ?_
  refine lv_iconst (v := (-1)) hx hb dX8_heaviest_8 (by decide) ?_
  refine lv_icmp_eq (tgt := 16) hx hb dX8_heaviest_9 (by decide) (fun c3 => ?_) (fun c3 => ?_)
  · have hf := (if_pos c3).mp hf
    refine lv_iconst (v := 0) hx hb dX8_heaviest_16 (by decide) ?_
    exact hJ17 S1 v2 0 a0 hf H locs ls hH (lv_sub hl [0] rfl)
  · have hf := (if_neg c3).mp hf
    refine lv_iconst (v := 1) hx hb dX8_heaviest_12 (by decide) ?_
    refine lv_goto (tgt := 17) hx hb dX8_heaviest_13 (by decide) ?_
    exact hJ17 S1 v2 1 a0 hf H locs ls hH (lv_sub hl [0] rfl)
-- X8_measure
def f_X8_measure (S : PS) (a0 : Nat) (a1 : Int32) (a2 : Int32) (post : Int32 → PS → Prop) : Prop :=
  if a1 = 0 then
    isO S a0 12 (
    f_X8_everyone S a0 fun v3 S2 => (
    isO S2 a0 12 (
    f_X8_tie S2 a0 ((1 : Int32) <<< (a2 &&& 31)) v3 fun v5 S4 => (
    post v5 S4))))
  else
  if a1 = 1 then
    isO S a0 12 (
    f_X8_bondsOf S a0 a2 fun v8 S7 => (
    post v8 S7))
  else
  if a1 = 2 then
    isO S a0 12 (
    f_X8_onSide S a0 a2 1 fun v11 S10 => (
    isO S10 a0 12 (
    f_X8_tie S10 a0 ((1 : Int32) <<< (a2 &&& 31)) v11 fun v13 S12 => (
    post v13 S12))))
  else
    if a2 = 0 then
      post (-100000000) S
    else
      isO S a0 12 (
      f_X8_betweenOf S a0 0 a2 fun v16 S15 => (
      post (-v16) S15))
abbrev rm_X8_measure : Room := { frames := 4, cells := 0, slots := 0, locals := 93 }
set_option maxHeartbeats 4000000 in
set_option maxRecDepth 100000 in
theorem c_X8_measure (l : Launch) (D : va_G) (cy : Nat → ClassId) (G : p_GT) (hG : p_ok G) (S : PS) (a0 : Nat) (a1 : Int32) (a2 : Int32) (post : Int32 → PS → Prop) (sz : Nat) (hf : f_X8_measure S a0 a1 a2 post) : p_Mi l D cy G S sz yX8_measure (Cond.code yX8_measure cX8_measure 3 (some .int) :: wG) rm_X8_measure [.ref a0, .int a1, .int a2] 0 0 post := by
  refine q_start hG (Qc := fun A => va_Qi post (p_Post D cy A) A) mf_X8_measure (Nat.le_of_ble_eq_true rfl) (own := RX8) rfl ?_
  intro p e s m below meth c A X hr hlk hnm ls hl hH
  have hx := X.1.1
  have hb := X.1.2.1
  replace hl : lv_has ls 3 [(0, .ref a0), (1, .int a1), (2, .int a2)] := hl
  obtain ⟨H, hHe⟩ : ∃ H, H = s.heap := ⟨_, rfl⟩
  obtain ⟨locs, hlo⟩ : ∃ locs : List Loc, locs = [] := ⟨_, rfl⟩
  rw [← hHe, ← hlo] at hH
  show W p l e rm_X8_measure s m [.ref a0, .int a1, .int a2].toArray below meth c s.heap [] 0 0 _ _
  rw [← hHe, ← hlo]
  refine lv_iload_n hx hb dX8_measure_0 rfl (lv_at hl 1 rfl) ?_
  by_cases c1 : a1 = 0
  · have hf := (if_pos c1).mp hf
    refine lv_tableIn (off := 27) (tgt := 28) hx hb dX8_measure_1 (by rw [c1]; decide) (by rw [c1]; decide) (by rw [c1]; rfl) (by decide) ?_
    refine lv_aload_n hx hb dX8_measure_28 rfl (lv_at hl 0 rfl) ?_
    refine lv_iconst (v := 1) hx hb dX8_measure_29 (by decide) ?_
    refine lv_iload_n hx hb dX8_measure_30 rfl (lv_at hl 2 rfl) ?_
    refine lv_ishl hx hb dX8_measure_31 ?_
    refine lv_aload_n hx hb dX8_measure_32 rfl (lv_at hl 0 rfl) ?_
    obtain ⟨hb1, hb2, hf⟩ := hf
    refine q_backI0 X hH (q_runV [] [.int ((1 : Int32) <<< (a2 &&& 31)), .ref a0] X hH hl (c_X8_everyone l D cy G X.2.2.2.1 S a0 _ _ hf) mf_X8_everyone mv_X8_everyone tw_1801 ⟨Nat.le_of_ble_eq_true rfl, Nat.le_of_ble_eq_true rfl⟩ hb1 hb2 (T := TX8) (N := 25) rfl rfl (Nat.le_of_ble_eq_true rfl) dX8_measure_33 ⟨Nat.le_of_ble_eq_true rfl, Nat.le_of_ble_eq_true rfl⟩) (fun v3 S2 hf H locs hH => ?_)
    obtain ⟨hb1, hb2, hf⟩ := hf
    refine q_backI0 X hH (q_runV [.int ((1 : Int32) <<< (a2 &&& 31)), .int v3] [] X hH hl (c_X8_tie l D cy G X.2.2.2.1 S2 a0 ((1 : Int32) <<< (a2 &&& 31)) v3 _ _ hf) mf_X8_tie mv_X8_tie tw_1805 ⟨Nat.le_of_ble_eq_true rfl, Nat.le_of_ble_eq_true rfl⟩ hb1 hb2 (T := TX8) (N := 25) rfl rfl (Nat.le_of_ble_eq_true rfl) dX8_measure_36 ⟨Nat.le_of_ble_eq_true rfl, Nat.le_of_ble_eq_true rfl⟩) (fun v5 S4 hf H locs hH => ?_)
    exact q_retI X hH hr hlk hf (Nat.zero_le _) (Nat.zero_le _) dX8_measure_39
  · have hf := (if_neg c1).mp hf
    by_cases c6 : a1 = 1
    · have hf := (if_pos c6).mp hf
      refine lv_tableIn (off := 39) (tgt := 40) hx hb dX8_measure_1 (by rw [c6]; decide) (by rw [c6]; decide) (by rw [c6]; rfl) (by decide) ?_
      refine lv_aload_n hx hb dX8_measure_40 rfl (lv_at hl 0 rfl) ?_
      refine lv_iload_n hx hb dX8_measure_41 rfl (lv_at hl 2 rfl) ?_
      obtain ⟨hb1, hb2, hf⟩ := hf
      refine q_backI0 X hH (q_runV [.int a2] [] X hH hl (c_X8_bondsOf l D cy G X.2.2.2.1 S a0 a2 _ _ hf) mf_X8_bondsOf mv_X8_bondsOf tw_1773 ⟨Nat.le_of_ble_eq_true rfl, Nat.le_of_ble_eq_true rfl⟩ hb1 hb2 (T := TX8) (N := 25) rfl rfl (Nat.le_of_ble_eq_true rfl) dX8_measure_42 ⟨Nat.le_of_ble_eq_true rfl, Nat.le_of_ble_eq_true rfl⟩) (fun v8 S7 hf H locs hH => ?_)
      exact q_retI X hH hr hlk hf (Nat.zero_le _) (Nat.zero_le _) dX8_measure_45
    · have hf := (if_neg c6).mp hf
      by_cases c9 : a1 = 2
      · have hf := (if_pos c9).mp hf
        refine lv_tableIn (off := 45) (tgt := 46) hx hb dX8_measure_1 (by rw [c9]; decide) (by rw [c9]; decide) (by rw [c9]; rfl) (by decide) ?_
        refine lv_aload_n hx hb dX8_measure_46 rfl (lv_at hl 0 rfl) ?_
        refine lv_iconst (v := 1) hx hb dX8_measure_47 (by decide) ?_
        refine lv_iload_n hx hb dX8_measure_48 rfl (lv_at hl 2 rfl) ?_
        refine lv_ishl hx hb dX8_measure_49 ?_
        refine lv_aload_n hx hb dX8_measure_50 rfl (lv_at hl 0 rfl) ?_
        refine lv_iload_n hx hb dX8_measure_51 rfl (lv_at hl 2 rfl) ?_
        refine lv_iconst (v := 1) hx hb dX8_measure_52 (by decide) ?_
        obtain ⟨hb1, hb2, hf⟩ := hf
        refine q_backI0 X hH (q_runV [.int a2, .int 1] [.int ((1 : Int32) <<< (a2 &&& 31)), .ref a0] X hH hl (c_X8_onSide l D cy G X.2.2.2.1 S a0 a2 1 _ _ hf) mf_X8_onSide mv_X8_onSide tw_1910 ⟨Nat.le_of_ble_eq_true rfl, Nat.le_of_ble_eq_true rfl⟩ hb1 hb2 (T := TX8) (N := 25) rfl rfl (Nat.le_of_ble_eq_true rfl) dX8_measure_53 ⟨Nat.le_of_ble_eq_true rfl, Nat.le_of_ble_eq_true rfl⟩) (fun v11 S10 hf H locs hH => ?_)
        obtain ⟨hb1, hb2, hf⟩ := hf
        refine q_backI0 X hH (q_runV [.int ((1 : Int32) <<< (a2 &&& 31)), .int v11] [] X hH hl (c_X8_tie l D cy G X.2.2.2.1 S10 a0 ((1 : Int32) <<< (a2 &&& 31)) v11 _ _ hf) mf_X8_tie mv_X8_tie tw_1805 ⟨Nat.le_of_ble_eq_true rfl, Nat.le_of_ble_eq_true rfl⟩ hb1 hb2 (T := TX8) (N := 25) rfl rfl (Nat.le_of_ble_eq_true rfl) dX8_measure_56 ⟨Nat.le_of_ble_eq_true rfl, Nat.le_of_ble_eq_true rfl⟩) (fun v13 S12 hf H locs hH => ?_)
        exact q_retI X hH hr hlk hf (Nat.zero_le _) (Nat.zero_le _) dX8_measure_59
      · have hf := (if_neg c9).mp hf
        refine lv_tableOut (tgt := 60) hx hb dX8_measure_1 (by have z0 := lv_neT c1 (a := 0) rfl; have z1 := lv_neT c6 (a := 1) rfl; have z2 := lv_neT c9 (a := 2) rfl; omega) (by decide) ?_
        refine lv_iload_n hx hb dX8_measure_60 rfl (lv_at hl 2 rfl) ?_
        refine lv_if_ne (tgt := 69) hx hb dX8_measure_61 (by decide) (fun c14 => ?_) (fun c14 => ?_)
        · have hf := (if_neg c14).mp hf
          refine lv_aload_n hx hb dX8_measure_69 rfl (lv_at hl 0 rfl) ?_
          refine lv_iconst (v := 0) hx hb dX8_measure_70 (by decide) ?_
          refine lv_iload_n hx hb dX8_measure_71 rfl (lv_at hl 2 rfl) ?_
          obtain ⟨hb1, hb2, hf⟩ := hf
          refine q_backI0 X hH (q_runV [.int 0, .int a2] [] X hH hl (c_X8_betweenOf l D cy G X.2.2.2.1 S a0 0 a2 _ _ hf) mf_X8_betweenOf mv_X8_betweenOf tw_1893 ⟨Nat.le_of_ble_eq_true rfl, Nat.le_of_ble_eq_true rfl⟩ hb1 hb2 (T := TX8) (N := 25) rfl rfl (Nat.le_of_ble_eq_true rfl) dX8_measure_72 ⟨Nat.le_of_ble_eq_true rfl, Nat.le_of_ble_eq_true rfl⟩) (fun v16 S15 hf H locs hH => ?_)
          refine lv_ineg hx hb dX8_measure_75 ?_
          exact q_retI X hH hr hlk hf (Nat.zero_le _) (Nat.zero_le _) dX8_measure_76
        · have hf := (if_pos c14).mp hf
          refine lv_ldc (v := (-100000000)) hx hb X.1.2.2.2.1 (X.1.2.2.2.2 _ tw_1987) dX8_measure_64 ?_
          refine lv_goto (tgt := 76) hx hb dX8_measure_66 (by decide) ?_
          exact q_retI X hH hr hlk hf (Nat.zero_le _) (Nat.zero_le _) dX8_measure_76
-- X8_ranked
def f_X8_ranked_J154 (post : Int32 → PS → Prop) (S : PS) (l0 : Nat) (l4 : Int32) : Prop :=
  pV S l0 12 0 (.int 0) fun S1 => (
  post l4 S1)
def f_X8_ranked_J148 (post : Int32 → PS → Prop) (g65 : PS → Nat → Int32 → Int32 → Int32 → Prop) (S : PS) (l0 : Nat) (l2 : Int32) (l3 : Int32) (l4 : Int32) (l5 : Int32) : Prop :=
  if l5 = l2 then
    f_X8_ranked_J154 post S l0 l4
  else
    g65 S l0 l2 l3 (l4 + 1)
def f_X8_ranked_J139 (post : Int32 → PS → Prop) (g85 : PS → Nat → Int32 → Int32 → Int32 → Int32 → Int32 → Prop) (S : PS) (l0 : Nat) (l2 : Int32) (l3 : Int32) (l4 : Int32) (l6 : Int32) (t0 : Int32) (t1 : Int32) : Prop :=
  g85 S l0 l2 l3 l4 (t1 + t0) (l6 + 1)
def f_X8_ranked_J134 (post : Int32 → PS → Prop) (g85 : PS → Nat → Int32 → Int32 → Int32 → Int32 → Int32 → Prop) (S : PS) (l0 : Nat) (l2 : Int32) (l3 : Int32) (l4 : Int32) (l6 : Int32) (t0 : Int32) : Prop :=
  f_X8_ranked_J139 post g85 S l0 l2 l3 l4 l6 1 t0
def f_X8_ranked_J138 (post : Int32 → PS → Prop) (g85 : PS → Nat → Int32 → Int32 → Int32 → Int32 → Int32 → Prop) (S : PS) (l0 : Nat) (l2 : Int32) (l3 : Int32) (l4 : Int32) (l6 : Int32) (t0 : Int32) : Prop :=
  f_X8_ranked_J139 post g85 S l0 l2 l3 l4 l6 0 t0
def f_X8_ranked_L85 (post : Int32 → PS → Prop) (g65 : PS → Nat → Int32 → Int32 → Int32 → Prop) : Nat → PS → Nat → Int32 → Int32 → Int32 → Int32 → Int32 → Prop
  | 0, _, _, _, _, _, _, _ => False
  | n + 1, S, l0, l2, l3, l4, l5, l6 =>
  if l3 ≤ l6 then
    f_X8_ranked_J148 post g65 S l0 l2 l3 l4 l5
  else
    gR S l0 12 15 fun v2 => (
    aI S v2 0 l6 fun v3 => (
    gR S l0 12 15 fun v4 => (
    aI S v4 0 l4 fun v5 => (
    if v5 < v3 then
      f_X8_ranked_J134 post (f_X8_ranked_L85 post g65 n) S l0 l2 l3 l4 l6 l5
    else
      gR S l0 12 15 fun v7 => (
      aI S v7 0 l6 fun v8 => (
      gR S l0 12 15 fun v9 => (
      aI S v9 0 l4 fun v10 => (
      if v8 = v10 then
        if l4 ≤ l6 then
          f_X8_ranked_J138 post (f_X8_ranked_L85 post g65 n) S l0 l2 l3 l4 l6 l5
        else
          f_X8_ranked_J134 post (f_X8_ranked_L85 post g65 n) S l0 l2 l3 l4 l6 l5
      else
        f_X8_ranked_J138 post (f_X8_ranked_L85 post g65 n) S l0 l2 l3 l4 l6 l5))))))))
def f_X8_ranked_L65 (post : Int32 → PS → Prop) : Nat → PS → Nat → Int32 → Int32 → Int32 → Prop
  | 0, _, _, _, _, _ => False
  | n + 1, S, l0, l2, l3, l4 =>
  if l3 ≤ l4 then
    post 0 S
  else
    gI S l0 12 0 fun v2 => (
    if v2 = 2 then
      f_X8_ranked_L85 post (f_X8_ranked_L65 post n) 4096 S l0 l2 l3 l4 0 0
    else
      post 0 S)
def f_X8_ranked_J62 (post : Int32 → PS → Prop) (S : PS) (l0 : Nat) (l2 : Int32) (l3 : Int32) : Prop :=
  f_X8_ranked_L65 post 4096 S l0 l2 l3 0
def f_X8_ranked_L28 (post : Int32 → PS → Prop) : Nat → PS → Nat → Int32 → Int32 → Int32 → Int32 → Prop
  | 0, _, _, _, _, _, _ => False
  | n + 1, S, l0, l1, l2, l3, l4 =>
  if l3 ≤ l4 then
    f_X8_ranked_J62 post S l0 l2 l3
  else
    gI S l0 12 0 fun v2 => (
    if v2 = 2 then
      gR S l0 12 15 fun v4 => (
      isO S l0 12 (
      f_X8_measure S l0 l1 l4 fun v6 S5 => (
      sI S5 v4 0 l4 v6 fun S7 => (
      (f_X8_ranked_L28 post n) S7 l0 l1 l2 l3 (l4 + 1)))))
    else
      f_X8_ranked_J62 post S l0 l2 l3)
def f_X8_ranked_J15 (post : Int32 → PS → Prop) (S : PS) (l0 : Nat) (l1 : Int32) (l2 : Int32) (t0 : Int32) (t1 : Nat) : Prop :=
  pV S t1 12 0 (.int t0) fun S1 => (
  gR S1 l0 12 1 fun v2 => (
  aI S1 v2 0 0 fun v3 => (
  f_X8_ranked_L28 post 4096 S1 l0 l1 l2 v3 0)))
def f_X8_ranked (S : PS) (a0 : Nat) (a1 : Int32) (a2 : Int32) (post : Int32 → PS → Prop) : Prop :=
  f_X8_in S a1 0 3 fun v2 S1 => (
  if v2 = 0 then
    f_X8_ranked_J15 post S1 a0 a1 a2 1 a0
  else
    f_X8_ranked_J15 post S1 a0 a1 a2 2 a0)
abbrev rm_X8_ranked : Room := { frames := 5, cells := 0, slots := 0, locals := 115 }
set_option maxHeartbeats 4000000 in
set_option maxRecDepth 100000 in
theorem c_X8_ranked (l : Launch) (D : va_G) (cy : Nat → ClassId) (G : p_GT) (hG : p_ok G) (S : PS) (a0 : Nat) (a1 : Int32) (a2 : Int32) (post : Int32 → PS → Prop) (sz : Nat) (hf : f_X8_ranked S a0 a1 a2 post) : p_Mi l D cy G S sz yX8_ranked (Cond.code yX8_ranked cX8_ranked 7 (some .int) :: wG) rm_X8_ranked [.ref a0, .int a1, .int a2] 0 0 post := by
  refine q_start hG (Qc := fun A => va_Qi post (p_Post D cy A) A) mf_X8_ranked (Nat.le_of_ble_eq_true rfl) (own := RX8) rfl ?_
  intro p e s m below meth c A X hr hlk hnm ls hl hH
  have hx := X.1.1
  have hb := X.1.2.1
  replace hl : lv_has ls 7 [(0, .ref a0), (1, .int a1), (2, .int a2)] := hl
  obtain ⟨H, hHe⟩ : ∃ H, H = s.heap := ⟨_, rfl⟩
  obtain ⟨locs, hlo⟩ : ∃ locs : List Loc, locs = [] := ⟨_, rfl⟩
  rw [← hHe, ← hlo] at hH
  show W p l e rm_X8_ranked s m [.ref a0, .int a1, .int a2].toArray below meth c s.heap [] 0 0 _ _
  rw [← hHe, ← hlo]
  have hJ15 : ∀ (S : PS) (l0 : Nat) (l1 : Int32) (l2 : Int32) (t0 : Int32) (t1 : Nat), f_X8_ranked_J15 post S l0 l1 l2 t0 t1 → ∀ (H : Heap) (locs : List Loc) (ls : Array Slot), p_H D cy S A s H locs → lv_has ls 7 [(0, .ref l0), (1, .int l1), (2, .int l2)] → W p l e rm_X8_ranked s m [.ref a0, .int a1, .int a2].toArray below meth c H locs 0 0 (MQ below (va_Qi post (p_Post D cy A) A) [.ref a0, .int a1, .int a2].toArray s 0 0 A) (F0 m 15 ls [.int t0, .ref t1]) := by
    intro S l0 l1 l2 t0 t1 hf H locs ls hH hl
    have hL28 : ∀ (n28 : Nat) (S : PS) (l0 : Nat) (l1 : Int32) (l2 : Int32) (l3 : Int32) (l4 : Int32), f_X8_ranked_L28 post n28 S l0 l1 l2 l3 l4 → ∀ (H : Heap) (locs : List Loc) (ls : Array Slot), p_H D cy S A s H locs → lv_has ls 7 [(0, .ref l0), (1, .int l1), (2, .int l2), (3, .int l3), (4, .int l4)] → W p l e rm_X8_ranked s m [.ref a0, .int a1, .int a2].toArray below meth c H locs 0 0 (MQ below (va_Qi post (p_Post D cy A) A) [.ref a0, .int a1, .int a2].toArray s 0 0 A) (F0 m 28 ls []) := by
      intro n28
      induction n28 with
      | zero => intro S l0 l1 l2 l3 l4 hf; exact hf.elim
      | succ n28 ih28 =>
        intro S l0 l1 l2 l3 l4 hf H locs ls hH hl
        have hJ62 : ∀ (S : PS) (l0 : Nat) (l2 : Int32) (l3 : Int32), f_X8_ranked_J62 post S l0 l2 l3 → ∀ (H : Heap) (locs : List Loc) (ls : Array Slot), p_H D cy S A s H locs → lv_has ls 7 [(0, .ref l0), (2, .int l2), (3, .int l3)] → W p l e rm_X8_ranked s m [.ref a0, .int a1, .int a2].toArray below meth c H locs 0 0 (MQ below (va_Qi post (p_Post D cy A) A) [.ref a0, .int a1, .int a2].toArray s 0 0 A) (F0 m 62 ls []) := by
          intro S l0 l2 l3 hf H locs ls hH hl
          have hL65 : ∀ (n65 : Nat) (S : PS) (l0 : Nat) (l2 : Int32) (l3 : Int32) (l4 : Int32), f_X8_ranked_L65 post n65 S l0 l2 l3 l4 → ∀ (H : Heap) (locs : List Loc) (ls : Array Slot), p_H D cy S A s H locs → lv_has ls 7 [(0, .ref l0), (2, .int l2), (3, .int l3), (4, .int l4)] → W p l e rm_X8_ranked s m [.ref a0, .int a1, .int a2].toArray below meth c H locs 0 0 (MQ below (va_Qi post (p_Post D cy A) A) [.ref a0, .int a1, .int a2].toArray s 0 0 A) (F0 m 65 ls []) := by
            intro n65
            induction n65 with
            | zero => intro S l0 l2 l3 l4 hf; exact hf.elim
            | succ n65 ih65 =>
              intro S l0 l2 l3 l4 hf H locs ls hH hl
              have hL85 : ∀ (n85 : Nat) (S : PS) (l0 : Nat) (l2 : Int32) (l3 : Int32) (l4 : Int32) (l5 : Int32) (l6 : Int32), f_X8_ranked_L85 post (f_X8_ranked_L65 post n65) n85 S l0 l2 l3 l4 l5 l6 → ∀ (H : Heap) (locs : List Loc) (ls : Array Slot), p_H D cy S A s H locs → lv_has ls 7 [(0, .ref l0), (2, .int l2), (3, .int l3), (4, .int l4), (5, .int l5), (6, .int l6)] → W p l e rm_X8_ranked s m [.ref a0, .int a1, .int a2].toArray below meth c H locs 0 0 (MQ below (va_Qi post (p_Post D cy A) A) [.ref a0, .int a1, .int a2].toArray s 0 0 A) (F0 m 85 ls []) := by
                intro n85
                induction n85 with
                | zero => intro S l0 l2 l3 l4 l5 l6 hf; exact hf.elim
                | succ n85 ih85 =>
                  intro S l0 l2 l3 l4 l5 l6 hf H locs ls hH hl
                  have hJ148 : ∀ (S : PS) (l0 : Nat) (l2 : Int32) (l3 : Int32) (l4 : Int32) (l5 : Int32), f_X8_ranked_J148 post (f_X8_ranked_L65 post n65) S l0 l2 l3 l4 l5 → ∀ (H : Heap) (locs : List Loc) (ls : Array Slot), p_H D cy S A s H locs → lv_has ls 7 [(0, .ref l0), (2, .int l2), (3, .int l3), (4, .int l4), (5, .int l5)] → W p l e rm_X8_ranked s m [.ref a0, .int a1, .int a2].toArray below meth c H locs 0 0 (MQ below (va_Qi post (p_Post D cy A) A) [.ref a0, .int a1, .int a2].toArray s 0 0 A) (F0 m 148 ls []) := by
                    intro S l0 l2 l3 l4 l5 hf H locs ls hH hl
                    have hJ154 : ∀ (S : PS) (l0 : Nat) (l4 : Int32), f_X8_ranked_J154 post S l0 l4 → ∀ (H : Heap) (locs : List Loc) (ls : Array Slot), p_H D cy S A s H locs → lv_has ls 7 [(0, .ref l0), (4, .int l4)] → W p l e rm_X8_ranked s m [.ref a0, .int a1, .int a2].toArray below meth c H locs 0 0 (MQ below (va_Qi post (p_Post D cy A) A) [.ref a0, .int a1, .int a2].toArray s 0 0 A) (F0 m 154 ls []) := by
                      intro S l0 l4 hf H locs ls hH hl
                      refine lv_aload_n hx hb dX8_ranked_154 rfl (lv_at hl 0 rfl) ?_
                      refine lv_iconst (v := 0) hx hb dX8_ranked_155 (by decide) ?_
                      refine q_putV (T := TX8) (N := 25) (ty0 := tyX8) (ty := tyX8 0) X hH hf iw_X8 tyX8_ok nmX8 rfl (by decide) tw_1609 (fun _ h => h) rfl (tyX8_ok 0 (by decide)) rfl rfl dX8_ranked_156 (fun S1 hf H locs hH => ?_)
                      refine lv_iload hx hb dX8_ranked_159 (lv_at hl 1 rfl) ?_
                      exact q_retI X hH hr hlk hf (Nat.zero_le _) (Nat.zero_le _) dX8_ranked_161
                    refine lv_iload hx hb dX8_ranked_148 (lv_at hl 4 rfl) ?_
                    refine lv_iload_n hx hb dX8_ranked_150 rfl (lv_at hl 1 rfl) ?_
                    refine lv_icmp_ne (tgt := 162) hx hb dX8_ranked_151 (by decide) (fun c1 => ?_) (fun c1 => ?_)
                    · have hf := (if_neg c1).mp hf
                      refine lv_iinc (v := l4 + 1) (lv' := [(4, .int (l4 + 1)), (0, .ref l0), (2, .int l2), (3, .int l3), (5, .int l5)]) hx hb dX8_ranked_162 hl (k := 3) rfl rfl (by decide) rfl (fun ls hl => ?_)
                      refine lv_goto (tgt := 65) hx hb dX8_ranked_165 (by decide) ?_
                      exact ih65 S l0 l2 l3 (l4 + 1) hf H locs ls hH (lv_sub hl [1, 2, 3, 0] rfl)
                    · have hf := (if_pos c1).mp hf
                      exact hJ154 S l0 l4 hf H locs ls hH (lv_sub hl [0, 3] rfl)
                  have hJ139 : ∀ (S : PS) (l0 : Nat) (l2 : Int32) (l3 : Int32) (l4 : Int32) (l6 : Int32) (t0 : Int32) (t1 : Int32), f_X8_ranked_J139 post (f_X8_ranked_L85 post (f_X8_ranked_L65 post n65) n85) S l0 l2 l3 l4 l6 t0 t1 → ∀ (H : Heap) (locs : List Loc) (ls : Array Slot), p_H D cy S A s H locs → lv_has ls 7 [(0, .ref l0), (2, .int l2), (3, .int l3), (4, .int l4), (6, .int l6)] → W p l e rm_X8_ranked s m [.ref a0, .int a1, .int a2].toArray below meth c H locs 0 0 (MQ below (va_Qi post (p_Post D cy A) A) [.ref a0, .int a1, .int a2].toArray s 0 0 A) (F0 m 139 ls [.int t0, .int t1]) := by
                    intro S l0 l2 l3 l4 l6 t0 t1 hf H locs ls hH hl
                    refine lv_iadd hx hb dX8_ranked_139 ?_
                    refine lv_istore (lv' := [(5, .int (t1 + t0)), (0, .ref l0), (2, .int l2), (3, .int l3), (4, .int l4), (6, .int l6)]) hx hb dX8_ranked_140 hl (by decide) rfl (fun ls hl => ?_)
                    refine lv_iinc (v := l6 + 1) (lv' := [(6, .int (l6 + 1)), (5, .int (t1 + t0)), (0, .ref l0), (2, .int l2), (3, .int l3), (4, .int l4)]) hx hb dX8_ranked_142 hl (k := 5) rfl rfl (by decide) rfl (fun ls hl => ?_)
                    refine lv_goto (tgt := 85) hx hb dX8_ranked_145 (by decide) ?_
                    exact ih85 S l0 l2 l3 l4 (t1 + t0) (l6 + 1) hf H locs ls hH (lv_sub hl [2, 3, 4, 5, 1, 0] rfl)
                  have hJ134 : ∀ (S : PS) (l0 : Nat) (l2 : Int32) (l3 : Int32) (l4 : Int32) (l6 : Int32) (t0 : Int32), f_X8_ranked_J134 post (f_X8_ranked_L85 post (f_X8_ranked_L65 post n65) n85) S l0 l2 l3 l4 l6 t0 → ∀ (H : Heap) (locs : List Loc) (ls : Array Slot), p_H D cy S A s H locs → lv_has ls 7 [(0, .ref l0), (2, .int l2), (3, .int l3), (4, .int l4), (6, .int l6)] → W p l e rm_X8_ranked s m [.ref a0, .int a1, .int a2].toArray below meth c H locs 0 0 (MQ below (va_Qi post (p_Post D cy A) A) [.ref a0, .int a1, .int a2].toArray s 0 0 A) (F0 m 134 ls [.int t0]) := by
                    intro S l0 l2 l3 l4 l6 t0 hf H locs ls hH hl
                    refine lv_iconst (v := 1) hx hb dX8_ranked_134 (by decide) ?_
                    refine lv_goto (tgt := 139) hx hb dX8_ranked_135 (by decide) ?_
                    exact hJ139 S l0 l2 l3 l4 l6 1 t0 hf H locs ls hH hl
                  have hJ138 : ∀ (S : PS) (l0 : Nat) (l2 : Int32) (l3 : Int32) (l4 : Int32) (l6 : Int32) (t0 : Int32), f_X8_ranked_J138 post (f_X8_ranked_L85 post (f_X8_ranked_L65 post n65) n85) S l0 l2 l3 l4 l6 t0 → ∀ (H : Heap) (locs : List Loc) (ls : Array Slot), p_H D cy S A s H locs → lv_has ls 7 [(0, .ref l0), (2, .int l2), (3, .int l3), (4, .int l4), (6, .int l6)] → W p l e rm_X8_ranked s m [.ref a0, .int a1, .int a2].toArray below meth c H locs 0 0 (MQ below (va_Qi post (p_Post D cy A) A) [.ref a0, .int a1, .int a2].toArray s 0 0 A) (F0 m 138 ls [.int t0]) := by
                    intro S l0 l2 l3 l4 l6 t0 hf H locs ls hH hl
                    refine lv_iconst (v := 0) hx hb dX8_ranked_138 (by decide) ?_
                    exact hJ139 S l0 l2 l3 l4 l6 0 t0 hf H locs ls hH hl
                  refine lv_iload hx hb dX8_ranked_85 (lv_at hl 5 rfl) ?_
                  refine lv_iload_n hx hb dX8_ranked_87 rfl (lv_at hl 2 rfl) ?_
                  refine lv_icmp_ge (tgt := 148) hx hb dX8_ranked_88 (by decide) (fun c1 => ?_) (fun c1 => ?_)
                  · have hf := (if_pos c1).mp hf
                    exact hJ148 S l0 l2 l3 l4 l5 hf H locs ls hH (lv_sub hl [0, 1, 2, 3, 4] rfl)
                  · have hf := (if_neg c1).mp hf
                    refine lv_iload hx hb dX8_ranked_91 (lv_at hl 4 rfl) ?_
                    refine lv_aload_n hx hb dX8_ranked_93 rfl (lv_at hl 0 rfl) ?_
                    refine q_getR (T := TX8) (N := 25) X hH hf iw_X8 rfl (by decide) tw_1624 (fun _ h => h) dX8_ranked_94 (fun v2 hf => ?_)
                    refine lv_iload hx hb dX8_ranked_97 (lv_at hl 5 rfl) ?_
                    refine q_iald X hH hf dX8_ranked_99 (fun v3 hf => ?_)
                    refine lv_aload_n hx hb dX8_ranked_100 rfl (lv_at hl 0 rfl) ?_
                    refine q_getR (T := TX8) (N := 25) X hH hf iw_X8 rfl (by decide) tw_1624 (fun _ h => h) dX8_ranked_101 (fun v4 hf => ?_)
                    refine lv_iload hx hb dX8_ranked_104 (lv_at hl 3 rfl) ?_
                    refine q_iald X hH hf dX8_ranked_106 (fun v5 hf => ?_)
                    refine lv_icmp_gt (tgt := 134) hx hb dX8_ranked_107 (by decide) (fun c6 => ?_) (fun c6 => ?_)
                    · have hf := (if_pos c6).mp hf
                      exact hJ134 S l0 l2 l3 l4 l6 l5 hf H locs ls hH (lv_sub hl [0, 1, 2, 3, 5] rfl)
                    · have hf := (if_neg c6).mp hf
                      refine lv_aload_n hx hb dX8_ranked_110 rfl (lv_at hl 0 rfl) ?_
                      refine q_getR (T := TX8) (N := 25) X hH hf iw_X8 rfl (by decide) tw_1624 (fun _ h => h) dX8_ranked_111 (fun v7 hf => ?_)
                      refine lv_iload hx hb dX8_ranked_114 (lv_at hl 5 rfl) ?_
                      refine q_iald X hH hf dX8_ranked_116 (fun v8 hf => ?_)
                      refine lv_aload_n hx hb dX8_ranked_117 rfl (lv_at hl 0 rfl) ?_
                      refine q_getR (T := TX8) (N := 25) X hH hf iw_X8 rfl (by decide) tw_1624 (fun _ h => h) dX8_ranked_118 (fun v9 hf => ?_)
                      refine lv_iload hx hb dX8_ranked_121 (lv_at hl 3 rfl) ?_
                      refine q_iald X hH hf dX8_ranked_123 (fun v10 hf => ?_)
                      refine lv_icmp_ne (tgt := 138) hx hb dX8_ranked_124 (by decide) (fun c11 => ?_) (fun c11 => ?_)
                      · have hf := (if_neg c11).mp hf
                        exact hJ138 S l0 l2 l3 l4 l6 l5 hf H locs ls hH (lv_sub hl [0, 1, 2, 3, 5] rfl)
                      · have hf := (if_pos c11).mp hf
                        refine lv_iload hx hb dX8_ranked_127 (lv_at hl 5 rfl) ?_
                        refine lv_iload hx hb dX8_ranked_129 (lv_at hl 3 rfl) ?_
                        refine lv_icmp_ge (tgt := 138) hx hb dX8_ranked_131 (by decide) (fun c12 => ?_) (fun c12 => ?_)
                        · have hf := (if_pos c12).mp hf
                          exact hJ138 S l0 l2 l3 l4 l6 l5 hf H locs ls hH (lv_sub hl [0, 1, 2, 3, 5] rfl)
                        · have hf := (if_neg c12).mp hf
                          exact hJ134 S l0 l2 l3 l4 l6 l5 hf H locs ls hH (lv_sub hl [0, 1, 2, 3, 5] rfl)
              refine lv_iload hx hb dX8_ranked_65 (lv_at hl 3 rfl) ?_
              refine lv_iload_n hx hb dX8_ranked_67 rfl (lv_at hl 2 rfl) ?_
              refine lv_icmp_ge (tgt := 168) hx hb dX8_ranked_68 (by decide) (fun c1 => ?_) (fun c1 => ?_)
              · have hf := (if_pos c1).mp hf
                refine lv_iconst (v := 0) hx hb dX8_ranked_168 (by decide) ?_
                exact q_retI X hH hr hlk hf (Nat.zero_le _) (Nat.zero_le _) dX8_ranked_169
              · have hf := (if_neg c1).mp hf
                refine lv_aload_n hx hb dX8_ranked_71 rfl (lv_at hl 0 rfl) ?_
                refine q_getI (T := TX8) (N := 25) X hH hf iw_X8 rfl (by decide) tw_1609 (fun _ h => h) dX8_ranked_72 (fun v2 hf => ?_)
                refine lv_iconst (v := 2) hx hb dX8_ranked_75 (by decide) ?_
                refine lv_icmp_ne (tgt := 168) hx hb dX8_ranked_76 (by decide) (fun c3 => ?_) (fun c3 => ?_)
                · have hf := (if_neg c3).mp hf
                  refine lv_iconst (v := 0) hx hb dX8_ranked_168 (by decide) ?_
                  exact q_retI X hH hr hlk hf (Nat.zero_le _) (Nat.zero_le _) dX8_ranked_169
                · have hf := (if_pos c3).mp hf
                  refine lv_iconst (v := 0) hx hb dX8_ranked_79 (by decide) ?_
                  refine lv_istore (lv' := [(5, .int 0), (0, .ref l0), (2, .int l2), (3, .int l3), (4, .int l4)]) hx hb dX8_ranked_80 hl (by decide) rfl (fun ls hl => ?_)
                  refine lv_iconst (v := 0) hx hb dX8_ranked_82 (by decide) ?_
                  refine lv_istore (lv' := [(6, .int 0), (5, .int 0), (0, .ref l0), (2, .int l2), (3, .int l3), (4, .int l4)]) hx hb dX8_ranked_83 hl (by decide) rfl (fun ls hl => ?_)
                  exact hL85 4096 S l0 l2 l3 l4 0 0 hf H locs ls hH (lv_sub hl [2, 3, 4, 5, 1, 0] rfl)
          refine lv_iconst (v := 0) hx hb dX8_ranked_62 (by decide) ?_
          refine lv_istore (lv' := [(4, .int 0), (0, .ref l0), (2, .int l2), (3, .int l3)]) hx hb dX8_ranked_63 hl (by decide) rfl (fun ls hl => ?_)
          exact hL65 4096 S l0 l2 l3 0 hf H locs ls hH (lv_sub hl [1, 2, 3, 0] rfl)
        refine lv_iload hx hb dX8_ranked_28 (lv_at hl 4 rfl) ?_
        refine lv_iload_n hx hb dX8_ranked_30 rfl (lv_at hl 3 rfl) ?_
        refine lv_icmp_ge (tgt := 62) hx hb dX8_ranked_31 (by decide) (fun c1 => ?_) (fun c1 => ?_)
        · have hf := (if_pos c1).mp hf
          exact hJ62 S l0 l2 l3 hf H locs ls hH (lv_sub hl [0, 2, 3] rfl)
        · have hf := (if_neg c1).mp hf
          refine lv_aload_n hx hb dX8_ranked_34 rfl (lv_at hl 0 rfl) ?_
          refine q_getI (T := TX8) (N := 25) X hH hf iw_X8 rfl (by decide) tw_1609 (fun _ h => h) dX8_ranked_35 (fun v2 hf => ?_)
          refine lv_iconst (v := 2) hx hb dX8_ranked_38 (by decide) ?_
          refine lv_icmp_ne (tgt := 62) hx hb dX8_ranked_39 (by decide) (fun c3 => ?_) (fun c3 => ?_)
          · have hf := (if_neg c3).mp hf
            exact hJ62 S l0 l2 l3 hf H locs ls hH (lv_sub hl [0, 2, 3] rfl)
          · have hf := (if_pos c3).mp hf
            refine lv_aload_n hx hb dX8_ranked_42 rfl (lv_at hl 0 rfl) ?_
            refine q_getR (T := TX8) (N := 25) X hH hf iw_X8 rfl (by decide) tw_1624 (fun _ h => h) dX8_ranked_43 (fun v4 hf => ?_)
            refine lv_iload hx hb dX8_ranked_46 (lv_at hl 4 rfl) ?_
            refine lv_aload_n hx hb dX8_ranked_48 rfl (lv_at hl 0 rfl) ?_
            refine lv_iload_n hx hb dX8_ranked_49 rfl (lv_at hl 1 rfl) ?_
            refine lv_iload hx hb dX8_ranked_50 (lv_at hl 4 rfl) ?_
            obtain ⟨hb1, hb2, hf⟩ := hf
            refine q_backI0 X hH (q_runV [.int l1, .int l4] [.int l4, .ref v4] X hH hl (c_X8_measure l D cy G X.2.2.2.1 S l0 l1 l4 _ _ hf) mf_X8_measure mv_X8_measure tw_1983 ⟨Nat.le_of_ble_eq_true rfl, Nat.le_of_ble_eq_true rfl⟩ hb1 hb2 (T := TX8) (N := 25) rfl rfl (Nat.le_of_ble_eq_true rfl) dX8_ranked_52 ⟨Nat.le_of_ble_eq_true rfl, Nat.le_of_ble_eq_true rfl⟩) (fun v6 S5 hf H locs hH => ?_)
            refine q_iast X hH hf dX8_ranked_55 (fun S7 hf H locs hH => ?_)
            refine lv_iinc (v := l4 + 1) (lv' := [(4, .int (l4 + 1)), (0, .ref l0), (1, .int l1), (2, .int l2), (3, .int l3)]) hx hb dX8_ranked_56 hl (k := 4) rfl rfl (by decide) rfl (fun ls hl => ?_)
            refine lv_goto (tgt := 28) hx hb dX8_ranked_59 (by decide) ?_
            exact ih28 S7 l0 l1 l2 l3 (l4 + 1) hf H locs ls hH (lv_sub hl [1, 2, 3, 4, 0] rfl)
    refine q_putV (T := TX8) (N := 25) (ty0 := tyX8) (ty := tyX8 0) X hH hf iw_X8 tyX8_ok nmX8 rfl (by decide) tw_1609 (fun _ h => h) rfl (tyX8_ok 0 (by decide)) rfl rfl dX8_ranked_15 (fun S1 hf H locs hH => ?_)
    refine lv_aload_n hx hb dX8_ranked_18 rfl (lv_at hl 0 rfl) ?_
    refine q_getR (T := TX8) (N := 25) X hH hf iw_X8 rfl (by decide) tw_1610 (fun _ h => h) dX8_ranked_19 (fun v2 hf => ?_)
    refine lv_iconst (v := 0) hx hb dX8_ranked_22 (by decide) ?_
    refine q_iald X hH hf dX8_ranked_23 (fun v3 hf => ?_)
    refine lv_istore_n (lv' := [(3, .int v3), (0, .ref l0), (1, .int l1), (2, .int l2)]) hx hb dX8_ranked_24 rfl hl (by decide) rfl (fun ls hl => ?_)
    refine lv_iconst (v := 0) hx hb dX8_ranked_25 (by decide) ?_
    refine lv_istore (lv' := [(4, .int 0), (3, .int v3), (0, .ref l0), (1, .int l1), (2, .int l2)]) hx hb dX8_ranked_26 hl (by decide) rfl (fun ls hl => ?_)
    exact hL28 4096 S1 l0 l1 l2 v3 0 hf H locs ls hH (lv_sub hl [2, 3, 4, 1, 0] rfl)
  refine lv_aload_n hx hb dX8_ranked_0 rfl (lv_at hl 0 rfl) ?_
  refine lv_iload_n hx hb dX8_ranked_1 rfl (lv_at hl 1 rfl) ?_
  refine lv_iconst (v := 0) hx hb dX8_ranked_2 (by decide) ?_
  refine lv_iconst (v := 3) hx hb dX8_ranked_3 (by decide) ?_
  refine q_backI0 X hH (q_runS [.int a1, .int 0, .int 3] [.ref a0] X hH hl (c_X8_in l D cy G X.2.2.2.1 S a1 0 3 _ _ hf) mf_X8_in tw_1695 tw_1694 ⟨Nat.le_of_ble_eq_true rfl, Nat.le_of_ble_eq_true rfl⟩ rfl (Nat.le_of_ble_eq_true rfl) dX8_ranked_4 ⟨Nat.le_of_ble_eq_true rfl, Nat.le_of_ble_eq_true rfl⟩) (fun v2 S1 hf H locs hH => ?_)
  refine lv_if_eq (tgt := 14) hx hb dX8_ranked_7 (by decide) (fun c3 => ?_) (fun c3 => ?_)
  · have hf := (if_pos c3).mp hf
    refine lv_iconst (v := 1) hx hb dX8_ranked_14 (by decide) ?_
    exact hJ15 S1 a0 a1 a2 1 a0 hf H locs ls hH hl
  · have hf := (if_neg c3).mp hf
    refine lv_iconst (v := 2) hx hb dX8_ranked_10 (by decide) ?_
    refine lv_goto (tgt := 15) hx hb dX8_ranked_11 (by decide) ?_
    exact hJ15 S1 a0 a1 a2 2 a0 hf H locs ls hH hl
-- X8_isTold
def f_X8_isTold (S : PS) (a0 : Nat) (post : Int32 → PS → Prop) : Prop :=
  pV S a0 12 0 (.int 0) fun S1 => (
  nZ .boolean 1 (post 1 S1))
abbrev rm_X8_isTold : Room := { frames := 0, cells := 0, slots := 0, locals := 0 }
set_option maxHeartbeats 4000000 in
set_option maxRecDepth 100000 in
theorem c_X8_isTold (l : Launch) (D : va_G) (cy : Nat → ClassId) (G : p_GT) (hG : p_ok G) (S : PS) (a0 : Nat) (post : Int32 → PS → Prop) (sz : Nat) (hf : f_X8_isTold S a0 post) : p_Mi l D cy G S sz yX8_isTold (Cond.code yX8_isTold cX8_isTold 1 (some .boolean) :: wG) rm_X8_isTold [.ref a0] 0 0 post := by
  refine q_start hG (Qc := fun A => va_Qi post (p_Post D cy A) A) mf_X8_isTold (Nat.le_of_ble_eq_true rfl) (own := RX8) rfl ?_
  intro p e s m below meth c A X hr hlk hnm ls hl hH
  have hx := X.1.1
  have hb := X.1.2.1
  replace hl : lv_has ls 1 [(0, .ref a0)] := hl
  obtain ⟨H, hHe⟩ : ∃ H, H = s.heap := ⟨_, rfl⟩
  obtain ⟨locs, hlo⟩ : ∃ locs : List Loc, locs = [] := ⟨_, rfl⟩
  rw [← hHe, ← hlo] at hH
  show W p l e rm_X8_isTold s m [.ref a0].toArray below meth c s.heap [] 0 0 _ _
  rw [← hHe, ← hlo]
  refine lv_aload_n hx hb dX8_isTold_0 rfl (lv_at hl 0 rfl) ?_
  refine lv_iconst (v := 0) hx hb dX8_isTold_1 (by decide) ?_
  refine q_putV (T := TX8) (N := 25) (ty0 := tyX8) (ty := tyX8 0) X hH hf iw_X8 tyX8_ok nmX8 rfl (by decide) tw_1609 (fun _ h => h) rfl (tyX8_ok 0 (by decide)) rfl rfl dX8_isTold_2 (fun S1 hf H locs hH => ?_)
  refine lv_iconst (v := 1) hx hb dX8_isTold_5 (by decide) ?_
  exact q_retZ X hH hr hlk hf (Nat.zero_le _) (Nat.zero_le _) dX8_isTold_6
-- X8_append
def f_X8_append_J30 (post : Int32 → PS → Prop) (S : PS) (l0 : Nat) (l1 : Int32) (t0 : Int32) (t1 : Nat) : Prop :=
  pV S t1 12 0 (.int t0) fun S1 => (
  gI S1 l0 12 0 fun v2 => (
  if v2 = 0 then
    gR S1 l0 12 16 fun v4 => (
    gI S1 l0 12 17 fun v5 => (
    sI S1 v4 2 v5 (vp_nar .char l1) fun S6 => (
    gI S6 l0 12 17 fun v7 => (
    pV S6 l0 12 17 (.int (v7 + 1)) fun S8 => (
    gI S8 l0 12 17 fun v9 => (
    post v9 S8))))))
  else
    post 0 S1))
def f_X8_append (S : PS) (a0 : Nat) (a1 : Int32) (post : Int32 → PS → Prop) : Prop :=
  f_X8_in S a1 32 126 fun v2 S1 => (
  if v2 = 0 then
    f_X8_append_J30 post S1 a0 a1 1 a0
  else
    gI S1 a0 12 17 fun v4 => (
    if v4 = 60 then
      f_X8_append_J30 post S1 a0 a1 2 a0
    else
      f_X8_append_J30 post S1 a0 a1 0 a0))
abbrev rm_X8_append : Room := { frames := 1, cells := 0, slots := 0, locals := 22 }
set_option maxHeartbeats 4000000 in
set_option maxRecDepth 100000 in
theorem c_X8_append (l : Launch) (D : va_G) (cy : Nat → ClassId) (G : p_GT) (hG : p_ok G) (S : PS) (a0 : Nat) (a1 : Int32) (post : Int32 → PS → Prop) (sz : Nat) (hf : f_X8_append S a0 a1 post) : p_Mi l D cy G S sz yX8_append (Cond.code yX8_append cX8_append 2 (some .int) :: wG) rm_X8_append [.ref a0, .int a1] 0 0 post := by
  refine q_start hG (Qc := fun A => va_Qi post (p_Post D cy A) A) mf_X8_append (Nat.le_of_ble_eq_true rfl) (own := RX8) rfl ?_
  intro p e s m below meth c A X hr hlk hnm ls hl hH
  have hx := X.1.1
  have hb := X.1.2.1
  replace hl : lv_has ls 2 [(0, .ref a0), (1, .int a1)] := hl
  obtain ⟨H, hHe⟩ : ∃ H, H = s.heap := ⟨_, rfl⟩
  obtain ⟨locs, hlo⟩ : ∃ locs : List Loc, locs = [] := ⟨_, rfl⟩
  rw [← hHe, ← hlo] at hH
  show W p l e rm_X8_append s m [.ref a0, .int a1].toArray below meth c s.heap [] 0 0 _ _
  rw [← hHe, ← hlo]
  have hJ30 : ∀ (S : PS) (l0 : Nat) (l1 : Int32) (t0 : Int32) (t1 : Nat), f_X8_append_J30 post S l0 l1 t0 t1 → ∀ (H : Heap) (locs : List Loc) (ls : Array Slot), p_H D cy S A s H locs → lv_has ls 2 [(0, .ref l0), (1, .int l1)] → W p l e rm_X8_append s m [.ref a0, .int a1].toArray below meth c H locs 0 0 (MQ below (va_Qi post (p_Post D cy A) A) [.ref a0, .int a1].toArray s 0 0 A) (F0 m 30 ls [.int t0, .ref t1]) := by
    intro S l0 l1 t0 t1 hf H locs ls hH hl
    refine q_putV (T := TX8) (N := 25) (ty0 := tyX8) (ty := tyX8 0) X hH hf iw_X8 tyX8_ok nmX8 rfl (by decide) tw_1609 (fun _ h => h) rfl (tyX8_ok 0 (by decide)) rfl rfl dX8_append_30 (fun S1 hf H locs hH => ?_)
    refine lv_aload_n hx hb dX8_append_33 rfl (lv_at hl 0 rfl) ?_
    refine q_getI (T := TX8) (N := 25) X hH hf iw_X8 rfl (by decide) tw_1609 (fun _ h => h) dX8_append_34 (fun v2 hf => ?_)
    refine lv_if_eq (tgt := 42) hx hb dX8_append_37 (by decide) (fun c3 => ?_) (fun c3 => ?_)
    · have hf := (if_pos c3).mp hf
      refine lv_aload_n hx hb dX8_append_42 rfl (lv_at hl 0 rfl) ?_
      refine q_getR (T := TX8) (N := 25) X hH hf iw_X8 rfl (by decide) tw_1625 (fun _ h => h) dX8_append_43 (fun v4 hf => ?_)
      refine lv_aload_n hx hb dX8_append_46 rfl (lv_at hl 0 rfl) ?_
      refine q_getI (T := TX8) (N := 25) X hH hf iw_X8 rfl (by decide) tw_1626 (fun _ h => h) dX8_append_47 (fun v5 hf => ?_)
      refine lv_iload_n hx hb dX8_append_50 rfl (lv_at hl 1 rfl) ?_
      refine q_cast X hH hf dX8_append_51 (fun S6 hf H locs hH => ?_)
      refine lv_aload_n hx hb dX8_append_52 rfl (lv_at hl 0 rfl) ?_
      refine lv_dup hx hb dX8_append_53 rfl ?_
      refine q_getI (T := TX8) (N := 25) X hH hf iw_X8 rfl (by decide) tw_1626 (fun _ h => h) dX8_append_54 (fun v7 hf => ?_)
      refine lv_iconst (v := 1) hx hb dX8_append_57 (by decide) ?_
      refine lv_iadd hx hb dX8_append_58 ?_
      refine q_putV (T := TX8) (N := 25) (ty0 := tyX8) (ty := tyX8 17) X hH hf iw_X8 tyX8_ok nmX8 rfl (by decide) tw_1626 (fun _ h => h) rfl (tyX8_ok 17 (by decide)) rfl rfl dX8_append_59 (fun S8 hf H locs hH => ?_)
      refine lv_aload_n hx hb dX8_append_62 rfl (lv_at hl 0 rfl) ?_
      refine q_getI (T := TX8) (N := 25) X hH hf iw_X8 rfl (by decide) tw_1626 (fun _ h => h) dX8_append_63 (fun v9 hf => ?_)
      exact q_retI X hH hr hlk hf (Nat.zero_le _) (Nat.zero_le _) dX8_append_66
    · have hf := (if_neg c3).mp hf
      refine lv_iconst (v := 0) hx hb dX8_append_40 (by decide) ?_
      exact q_retI X hH hr hlk hf (Nat.zero_le _) (Nat.zero_le _) dX8_append_41
  refine lv_aload_n hx hb dX8_append_0 rfl (lv_at hl 0 rfl) ?_
  refine lv_iload_n hx hb dX8_append_1 rfl (lv_at hl 1 rfl) ?_
  refine lv_bipush (v := 32) hx hb dX8_append_2 (by decide) ?_
  refine lv_bipush (v := 126) hx hb dX8_append_4 (by decide) ?_
  refine q_backI0 X hH (q_runS [.int a1, .int 32, .int 126] [.ref a0] X hH hl (c_X8_in l D cy G X.2.2.2.1 S a1 32 126 _ _ hf) mf_X8_in tw_1695 tw_1694 ⟨Nat.le_of_ble_eq_true rfl, Nat.le_of_ble_eq_true rfl⟩ rfl (Nat.le_of_ble_eq_true rfl) dX8_append_6 ⟨Nat.le_of_ble_eq_true rfl, Nat.le_of_ble_eq_true rfl⟩) (fun v2 S1 hf H locs hH => ?_)
  refine lv_if_ne (tgt := 16) hx hb dX8_append_9 (by decide) (fun c3 => ?_) (fun c3 => ?_)
  · have hf := (if_neg c3).mp hf
    refine lv_aload_n hx hb dX8_append_16 rfl (lv_at hl 0 rfl) ?_
    refine q_getI (T := TX8) (N := 25) X hH hf iw_X8 rfl (by decide) tw_1626 (fun _ h => h) dX8_append_17 (fun v4 hf => ?_)
    refine lv_bipush (v := 60) hx hb dX8_append_20 (by decide) ?_
    refine lv_icmp_ne (tgt := 29) hx hb dX8_append_22 (by decide) (fun c5 => ?_) (fun c5 => ?_)
    · have hf := (if_neg c5).mp hf
      refine lv_iconst (v := 0) hx hb dX8_append_29 (by decide) ?_
      exact hJ30 S1 a0 a1 0 a0 hf H locs ls hH hl
    · have hf := (if_pos c5).mp hf
      refine lv_iconst (v := 2) hx hb dX8_append_25 (by decide) ?_
      refine lv_goto (tgt := 30) hx hb dX8_append_26 (by decide) ?_
      exact hJ30 S1 a0 a1 2 a0 hf H locs ls hH hl
  · have hf := (if_pos c3).mp hf
    refine lv_iconst (v := 1) hx hb dX8_append_12 (by decide) ?_
    refine lv_goto (tgt := 30) hx hb dX8_append_13 (by decide) ?_
    exact hJ30 S1 a0 a1 1 a0 hf H locs ls hH hl
-- X8_sign
def f_X8_sign (S : PS) (a0 : Nat) (post : Int32 → PS → Prop) : Prop :=
  gI S a0 12 18 fun v1 => (
  gI S a0 12 17 fun v2 => (
  if v2 ≤ v1 then
    post (-1) S
  else
    gR S a0 12 16 fun v4 => (
    gI S a0 12 18 fun v5 => (
    aI S v4 2 v5 fun v6 => (
    post v6 S)))))
abbrev rm_X8_sign : Room := { frames := 0, cells := 0, slots := 0, locals := 0 }
set_option maxHeartbeats 4000000 in
set_option maxRecDepth 100000 in
theorem c_X8_sign (l : Launch) (D : va_G) (cy : Nat → ClassId) (G : p_GT) (hG : p_ok G) (S : PS) (a0 : Nat) (post : Int32 → PS → Prop) (sz : Nat) (hf : f_X8_sign S a0 post) : p_Mi l D cy G S sz yX8_sign (Cond.code yX8_sign cX8_sign 1 (some .int) :: wG) rm_X8_sign [.ref a0] 0 0 post := by
  refine q_start hG (Qc := fun A => va_Qi post (p_Post D cy A) A) mf_X8_sign (Nat.le_of_ble_eq_true rfl) (own := RX8) rfl ?_
  intro p e s m below meth c A X hr hlk hnm ls hl hH
  have hx := X.1.1
  have hb := X.1.2.1
  replace hl : lv_has ls 1 [(0, .ref a0)] := hl
  obtain ⟨H, hHe⟩ : ∃ H, H = s.heap := ⟨_, rfl⟩
  obtain ⟨locs, hlo⟩ : ∃ locs : List Loc, locs = [] := ⟨_, rfl⟩
  rw [← hHe, ← hlo] at hH
  show W p l e rm_X8_sign s m [.ref a0].toArray below meth c s.heap [] 0 0 _ _
  rw [← hHe, ← hlo]
  refine lv_aload_n hx hb dX8_sign_0 rfl (lv_at hl 0 rfl) ?_
  refine q_getI (T := TX8) (N := 25) X hH hf iw_X8 rfl (by decide) tw_1627 (fun _ h => h) dX8_sign_1 (fun v1 hf => ?_)
  refine lv_aload_n hx hb dX8_sign_4 rfl (lv_at hl 0 rfl) ?_
  refine q_getI (T := TX8) (N := 25) X hH hf iw_X8 rfl (by decide) tw_1626 (fun _ h => h) dX8_sign_5 (fun v2 hf => ?_)
  refine lv_icmp_ge (tgt := 23) hx hb dX8_sign_8 (by decide) (fun c3 => ?_) (fun c3 => ?_)
  · have hf := (if_pos c3).mp hf
    refine lv_iconst (v := (-1)) hx hb dX8_sign_23 (by decide) ?_
    exact q_retI X hH hr hlk hf (Nat.zero_le _) (Nat.zero_le _) dX8_sign_24
  · have hf := (if_neg c3).mp hf
    refine lv_aload_n hx hb dX8_sign_11 rfl (lv_at hl 0 rfl) ?_
    refine q_getR (T := TX8) (N := 25) X hH hf iw_X8 rfl (by decide) tw_1625 (fun _ h => h) dX8_sign_12 (fun v4 hf => ?_)
    refine lv_aload_n hx hb dX8_sign_15 rfl (lv_at hl 0 rfl) ?_
    refine q_getI (T := TX8) (N := 25) X hH hf iw_X8 rfl (by decide) tw_1627 (fun _ h => h) dX8_sign_16 (fun v5 hf => ?_)
    refine q_cald X hH hf dX8_sign_19 (fun v6 hf => ?_)
    refine lv_goto (tgt := 24) hx hb dX8_sign_20 (by decide) ?_
    exact q_retI X hH hr hlk hf (Nat.zero_le _) (Nat.zero_le _) dX8_sign_24
-- X8_needs
def f_X8_needs (S : PS) (a0 : Nat) (a1 : Int32) (post : PS → Prop) : Prop :=
  gI S a0 12 19 fun v1 => (
  if v1 < 0 then
    isO S a0 12 (
    f_X8_sign S a0 fun v4 S3 => (
    if v4 = a1 then
      gI S3 a0 12 18 fun v6 => (
      pV S3 a0 12 18 (.int (v6 + 1)) fun S7 => (
      post S7))
    else
      gI S3 a0 12 18 fun v8 => (
      pV S3 a0 12 19 (.int v8) fun S9 => (
      post S9))))
  else
    post S)
abbrev rm_X8_needs : Room := { frames := 1, cells := 0, slots := 0, locals := 20 }
set_option maxHeartbeats 4000000 in
set_option maxRecDepth 100000 in
theorem c_X8_needs (l : Launch) (D : va_G) (cy : Nat → ClassId) (G : p_GT) (hG : p_ok G) (S : PS) (a0 : Nat) (a1 : Int32) (post : PS → Prop) (sz : Nat) (hf : f_X8_needs S a0 a1 post) : p_Mv l D cy G S sz yX8_needs (Cond.code yX8_needs cX8_needs 2 none :: wG) rm_X8_needs [.ref a0, .int a1] 0 0 post := by
  refine q_start hG (Qc := fun A => va_Qv post (p_Post D cy A) A) mf_X8_needs (Nat.le_of_ble_eq_true rfl) (own := RX8) rfl ?_
  intro p e s m below meth c A X hr hlk hnm ls hl hH
  have hx := X.1.1
  have hb := X.1.2.1
  replace hl : lv_has ls 2 [(0, .ref a0), (1, .int a1)] := hl
  obtain ⟨H, hHe⟩ : ∃ H, H = s.heap := ⟨_, rfl⟩
  obtain ⟨locs, hlo⟩ : ∃ locs : List Loc, locs = [] := ⟨_, rfl⟩
  rw [← hHe, ← hlo] at hH
  show W p l e rm_X8_needs s m [.ref a0, .int a1].toArray below meth c s.heap [] 0 0 _ _
  rw [← hHe, ← hlo]
  refine lv_aload_n hx hb dX8_needs_0 rfl (lv_at hl 0 rfl) ?_
  refine q_getI (T := TX8) (N := 25) X hH hf iw_X8 rfl (by decide) tw_1628 (fun _ h => h) dX8_needs_1 (fun v1 hf => ?_)
  refine lv_if_lt (tgt := 8) hx hb dX8_needs_4 (by decide) (fun c2 => ?_) (fun c2 => ?_)
  · have hf := (if_pos c2).mp hf
    refine lv_aload_n hx hb dX8_needs_8 rfl (lv_at hl 0 rfl) ?_
    obtain ⟨hb1, hb2, hf⟩ := hf
    refine q_backI0 X hH (q_runV [] [] X hH hl (c_X8_sign l D cy G X.2.2.2.1 S a0 _ _ hf) mf_X8_sign mv_X8_sign tw_2008 ⟨Nat.le_of_ble_eq_true rfl, Nat.le_of_ble_eq_true rfl⟩ hb1 hb2 (T := TX8) (N := 25) rfl rfl (Nat.le_of_ble_eq_true rfl) dX8_needs_9 ⟨Nat.le_of_ble_eq_true rfl, Nat.le_of_ble_eq_true rfl⟩) (fun v4 S3 hf H locs hH => ?_)
    refine lv_iload_n hx hb dX8_needs_12 rfl (lv_at hl 1 rfl) ?_
    refine lv_icmp_eq (tgt := 25) hx hb dX8_needs_13 (by decide) (fun c5 => ?_) (fun c5 => ?_)
    · have hf := (if_pos c5).mp hf
      refine lv_aload_n hx hb dX8_needs_25 rfl (lv_at hl 0 rfl) ?_
      refine lv_dup hx hb dX8_needs_26 rfl ?_
      refine q_getI (T := TX8) (N := 25) X hH hf iw_X8 rfl (by decide) tw_1627 (fun _ h => h) dX8_needs_27 (fun v6 hf => ?_)
      refine lv_iconst (v := 1) hx hb dX8_needs_30 (by decide) ?_
      refine lv_iadd hx hb dX8_needs_31 ?_
      refine q_putV (T := TX8) (N := 25) (ty0 := tyX8) (ty := tyX8 18) X hH hf iw_X8 tyX8_ok nmX8 rfl (by decide) tw_1627 (fun _ h => h) rfl (tyX8_ok 18 (by decide)) rfl rfl dX8_needs_32 (fun S7 hf H locs hH => ?_)
      exact q_retV X hH hr hlk hf (Nat.zero_le _) (Nat.zero_le _) dX8_needs_35
    · have hf := (if_neg c5).mp hf
      refine lv_aload_n hx hb dX8_needs_16 rfl (lv_at hl 0 rfl) ?_
      refine lv_aload_n hx hb dX8_needs_17 rfl (lv_at hl 0 rfl) ?_
      refine q_getI (T := TX8) (N := 25) X hH hf iw_X8 rfl (by decide) tw_1627 (fun _ h => h) dX8_needs_18 (fun v8 hf => ?_)
      refine q_putV (T := TX8) (N := 25) (ty0 := tyX8) (ty := tyX8 19) X hH hf iw_X8 tyX8_ok nmX8 rfl (by decide) tw_1628 (fun _ h => h) rfl (tyX8_ok 19 (by decide)) rfl rfl dX8_needs_21 (fun S9 hf H locs hH => ?_)
      exact q_retV X hH hr hlk hf (Nat.zero_le _) (Nat.zero_le _) dX8_needs_24
  · have hf := (if_neg c2).mp hf
    exact q_retV X hH hr hlk hf (Nat.zero_le _) (Nat.zero_le _) dX8_needs_7
-- X8_signs
def f_X8_signs (S : PS) (a0 : Nat) (a1 : Int32) (a2 : Int32) (a3 : Int32) (post : PS → Prop) : Prop :=
  isO S a0 12 (
  f_X8_needs S a0 a1 fun S1 => (
  isO S1 a0 12 (
  f_X8_needs S1 a0 a2 fun S3 => (
  isO S3 a0 12 (
  f_X8_needs S3 a0 a3 fun S5 => (
  post S5))))))
abbrev rm_X8_signs : Room := { frames := 2, cells := 0, slots := 0, locals := 41 }
set_option maxHeartbeats 4000000 in
set_option maxRecDepth 100000 in
theorem c_X8_signs (l : Launch) (D : va_G) (cy : Nat → ClassId) (G : p_GT) (hG : p_ok G) (S : PS) (a0 : Nat) (a1 : Int32) (a2 : Int32) (a3 : Int32) (post : PS → Prop) (sz : Nat) (hf : f_X8_signs S a0 a1 a2 a3 post) : p_Mv l D cy G S sz yX8_signs (Cond.code yX8_signs cX8_signs 4 none :: wG) rm_X8_signs [.ref a0, .int a1, .int a2, .int a3] 0 0 post := by
  refine q_start hG (Qc := fun A => va_Qv post (p_Post D cy A) A) mf_X8_signs (Nat.le_of_ble_eq_true rfl) (own := RX8) rfl ?_
  intro p e s m below meth c A X hr hlk hnm ls hl hH
  have hx := X.1.1
  have hb := X.1.2.1
  replace hl : lv_has ls 4 [(0, .ref a0), (1, .int a1), (2, .int a2), (3, .int a3)] := hl
  obtain ⟨H, hHe⟩ : ∃ H, H = s.heap := ⟨_, rfl⟩
  obtain ⟨locs, hlo⟩ : ∃ locs : List Loc, locs = [] := ⟨_, rfl⟩
  rw [← hHe, ← hlo] at hH
  show W p l e rm_X8_signs s m [.ref a0, .int a1, .int a2, .int a3].toArray below meth c s.heap [] 0 0 _ _
  rw [← hHe, ← hlo]
  refine lv_aload_n hx hb dX8_signs_0 rfl (lv_at hl 0 rfl) ?_
  refine lv_iload_n hx hb dX8_signs_1 rfl (lv_at hl 1 rfl) ?_
  obtain ⟨hb1, hb2, hf⟩ := hf
  refine q_backV0 X hH (q_runV [.int a1] [] X hH hl (c_X8_needs l D cy G X.2.2.2.1 S a0 a1 _ _ hf) mf_X8_needs mv_X8_needs tw_2020 ⟨Nat.le_of_ble_eq_true rfl, Nat.le_of_ble_eq_true rfl⟩ hb1 hb2 (T := TX8) (N := 25) rfl rfl (Nat.le_of_ble_eq_true rfl) dX8_signs_2 ⟨Nat.le_of_ble_eq_true rfl, Nat.le_of_ble_eq_true rfl⟩) (fun S1 hf H locs hH => ?_)
  refine lv_aload_n hx hb dX8_signs_5 rfl (lv_at hl 0 rfl) ?_
  refine lv_iload_n hx hb dX8_signs_6 rfl (lv_at hl 2 rfl) ?_
  obtain ⟨hb1, hb2, hf⟩ := hf
  refine q_backV0 X hH (q_runV [.int a2] [] X hH hl (c_X8_needs l D cy G X.2.2.2.1 S1 a0 a2 _ _ hf) mf_X8_needs mv_X8_needs tw_2020 ⟨Nat.le_of_ble_eq_true rfl, Nat.le_of_ble_eq_true rfl⟩ hb1 hb2 (T := TX8) (N := 25) rfl rfl (Nat.le_of_ble_eq_true rfl) dX8_signs_7 ⟨Nat.le_of_ble_eq_true rfl, Nat.le_of_ble_eq_true rfl⟩) (fun S3 hf H locs hH => ?_)
  refine lv_aload_n hx hb dX8_signs_10 rfl (lv_at hl 0 rfl) ?_
  refine lv_iload_n hx hb dX8_signs_11 rfl (lv_at hl 3 rfl) ?_
  obtain ⟨hb1, hb2, hf⟩ := hf
  refine q_backV0 X hH (q_runV [.int a3] [] X hH hl (c_X8_needs l D cy G X.2.2.2.1 S3 a0 a3 _ _ hf) mf_X8_needs mv_X8_needs tw_2020 ⟨Nat.le_of_ble_eq_true rfl, Nat.le_of_ble_eq_true rfl⟩ hb1 hb2 (T := TX8) (N := 25) rfl rfl (Nat.le_of_ble_eq_true rfl) dX8_signs_12 ⟨Nat.le_of_ble_eq_true rfl, Nat.le_of_ble_eq_true rfl⟩) (fun S5 hf H locs hH => ?_)
  exact q_retV X hH hr hlk hf (Nat.zero_le _) (Nat.zero_le _) dX8_signs_15
-- X8_number
def f_X8_number_L43 (post : Int32 → PS → Prop) : Nat → PS → Nat → Int32 → Int32 → Int32 → Prop
  | 0, _, _, _, _, _ => False
  | n + 1, S, l0, l1, l2, l3 =>
  if l1 ≤ l3 then
    post l2 S
  else
    isO S l0 12 (
    f_X8_sign S l0 fun v3 S2 => (
    f_X8_in S2 v3 48 57 fun v5 S4 => (
    if v5 = 0 then
      post l2 S4
    else
      isO S4 l0 12 (
      f_X8_sign S4 l0 fun v8 S7 => (
      gI S7 l0 12 18 fun v9 => (
      pV S7 l0 12 18 (.int (v9 + 1)) fun S10 => (
      (f_X8_number_L43 post n) S10 l0 l1 ((((10 : Int32) * l2) + v8) - 48) (l3 + 1))))))))
def f_X8_number (S : PS) (a0 : Nat) (a1 : Int32) (post : Int32 → PS → Prop) : Prop :=
  isO S a0 12 (
  f_X8_needs S a0 32 fun S1 => (
  gI S1 a0 12 19 fun v3 => (
  if v3 < 0 then
    isO S1 a0 12 (
    f_X8_sign S1 a0 fun v6 S5 => (
    f_X8_in S5 v6 48 57 fun v8 S7 => (
    if v8 = 0 then
      gI S7 a0 12 18 fun v10 => (
      pV S7 a0 12 19 (.int v10) fun S11 => (
      post 0 S11))
    else
      f_X8_number_L43 post 4096 S7 a0 a1 0 0)))
  else
    post 0 S1)))
abbrev rm_X8_number : Room := { frames := 2, cells := 0, slots := 0, locals := 41 }
set_option maxHeartbeats 4000000 in
set_option maxRecDepth 100000 in
theorem c_X8_number (l : Launch) (D : va_G) (cy : Nat → ClassId) (G : p_GT) (hG : p_ok G) (S : PS) (a0 : Nat) (a1 : Int32) (post : Int32 → PS → Prop) (sz : Nat) (hf : f_X8_number S a0 a1 post) : p_Mi l D cy G S sz yX8_number (Cond.code yX8_number cX8_number 4 (some .int) :: wG) rm_X8_number [.ref a0, .int a1] 0 0 post := by
  refine q_start hG (Qc := fun A => va_Qi post (p_Post D cy A) A) mf_X8_number (Nat.le_of_ble_eq_true rfl) (own := RX8) rfl ?_
  intro p e s m below meth c A X hr hlk hnm ls hl hH
  have hx := X.1.1
  have hb := X.1.2.1
  replace hl : lv_has ls 4 [(0, .ref a0), (1, .int a1)] := hl
  obtain ⟨H, hHe⟩ : ∃ H, H = s.heap := ⟨_, rfl⟩
  obtain ⟨locs, hlo⟩ : ∃ locs : List Loc, locs = [] := ⟨_, rfl⟩
  rw [← hHe, ← hlo] at hH
  show W p l e rm_X8_number s m [.ref a0, .int a1].toArray below meth c s.heap [] 0 0 _ _
  rw [← hHe, ← hlo]
  have hL43 : ∀ (n43 : Nat) (S : PS) (l0 : Nat) (l1 : Int32) (l2 : Int32) (l3 : Int32), f_X8_number_L43 post n43 S l0 l1 l2 l3 → ∀ (H : Heap) (locs : List Loc) (ls : Array Slot), p_H D cy S A s H locs → lv_has ls 4 [(0, .ref l0), (1, .int l1), (2, .int l2), (3, .int l3)] → W p l e rm_X8_number s m [.ref a0, .int a1].toArray below meth c H locs 0 0 (MQ below (va_Qi post (p_Post D cy A) A) [.ref a0, .int a1].toArray s 0 0 A) (F0 m 43 ls []) := by
    intro n43
    induction n43 with
    | zero => intro S l0 l1 l2 l3 hf; exact hf.elim
    | succ n43 ih43 =>
      intro S l0 l1 l2 l3 hf H locs ls hH hl
      refine lv_iload_n hx hb dX8_number_43 rfl (lv_at hl 3 rfl) ?_
      refine lv_iload_n hx hb dX8_number_44 rfl (lv_at hl 1 rfl) ?_
      refine lv_icmp_ge (tgt := 91) hx hb dX8_number_45 (by decide) (fun c1 => ?_) (fun c1 => ?_)
      · have hf := (if_pos c1).mp hf
        refine lv_iload_n hx hb dX8_number_91 rfl (lv_at hl 2 rfl) ?_
        exact q_retI X hH hr hlk hf (Nat.zero_le _) (Nat.zero_le _) dX8_number_92
      · have hf := (if_neg c1).mp hf
        refine lv_aload_n hx hb dX8_number_48 rfl (lv_at hl 0 rfl) ?_
        obtain ⟨hb1, hb2, hf⟩ := hf
        refine q_backI0 X hH (q_runV [] [] X hH hl (c_X8_sign l D cy G X.2.2.2.1 S l0 _ _ hf) mf_X8_sign mv_X8_sign tw_2008 ⟨Nat.le_of_ble_eq_true rfl, Nat.le_of_ble_eq_true rfl⟩ hb1 hb2 (T := TX8) (N := 25) rfl rfl (Nat.le_of_ble_eq_true rfl) dX8_number_49 ⟨Nat.le_of_ble_eq_true rfl, Nat.le_of_ble_eq_true rfl⟩) (fun v3 S2 hf H locs hH => ?_)
        refine lv_bipush (v := 48) hx hb dX8_number_52 (by decide) ?_
        refine lv_bipush (v := 57) hx hb dX8_number_54 (by decide) ?_
        refine q_backI0 X hH (q_runS [.int v3, .int 48, .int 57] [] X hH hl (c_X8_in l D cy G X.2.2.2.1 S2 v3 48 57 _ _ hf) mf_X8_in tw_1695 tw_1694 ⟨Nat.le_of_ble_eq_true rfl, Nat.le_of_ble_eq_true rfl⟩ rfl (Nat.le_of_ble_eq_true rfl) dX8_number_56 ⟨Nat.le_of_ble_eq_true rfl, Nat.le_of_ble_eq_true rfl⟩) (fun v5 S4 hf H locs hH => ?_)
        refine lv_if_eq (tgt := 91) hx hb dX8_number_59 (by decide) (fun c6 => ?_) (fun c6 => ?_)
        · have hf := (if_pos c6).mp hf
          refine lv_iload_n hx hb dX8_number_91 rfl (lv_at hl 2 rfl) ?_
          exact q_retI X hH hr hlk hf (Nat.zero_le _) (Nat.zero_le _) dX8_number_92
        · have hf := (if_neg c6).mp hf
          refine lv_bipush (v := 10) hx hb dX8_number_62 (by decide) ?_
          refine lv_iload_n hx hb dX8_number_64 rfl (lv_at hl 2 rfl) ?_
          refine lv_imul hx hb dX8_number_65 ?_
          refine lv_aload_n hx hb dX8_number_66 rfl (lv_at hl 0 rfl) ?_
          obtain ⟨hb1, hb2, hf⟩ := hf
          refine q_backI0 X hH (q_runV [] [.int ((10 : Int32) * l2)] X hH hl (c_X8_sign l D cy G X.2.2.2.1 S4 l0 _ _ hf) mf_X8_sign mv_X8_sign tw_2008 ⟨Nat.le_of_ble_eq_true rfl, Nat.le_of_ble_eq_true rfl⟩ hb1 hb2 (T := TX8) (N := 25) rfl rfl (Nat.le_of_ble_eq_true rfl) dX8_number_67 ⟨Nat.le_of_ble_eq_true rfl, Nat.le_of_ble_eq_true rfl⟩) (fun v8 S7 hf H locs hH => ?_)
          refine lv_iadd hx hb dX8_number_70 ?_
          refine lv_bipush (v := 48) hx hb dX8_number_71 (by decide) ?_
          refine lv_isub hx hb dX8_number_73 ?_
          refine lv_istore_n (lv' := [(2, .int ((((10 : Int32) * l2) + v8) - 48)), (0, .ref l0), (1, .int l1), (3, .int l3)]) hx hb dX8_number_74 rfl hl (by decide) rfl (fun ls hl => ?_)
          refine lv_aload_n hx hb dX8_number_75 rfl (lv_at hl 1 rfl) ?_
          refine lv_dup hx hb dX8_number_76 rfl ?_
          refine q_getI (T := TX8) (N := 25) X hH hf iw_X8 rfl (by decide) tw_1627 (fun _ h => h) dX8_number_77 (fun v9 hf => ?_)
          refine lv_iconst (v := 1) hx hb dX8_number_80 (by decide) ?_
          refine lv_iadd hx hb dX8_number_81 ?_
          refine q_putV (T := TX8) (N := 25) (ty0 := tyX8) (ty := tyX8 18) X hH hf iw_X8 tyX8_ok nmX8 rfl (by decide) tw_1627 (fun _ h => h) rfl (tyX8_ok 18 (by decide)) rfl rfl dX8_number_82 (fun S10 hf H locs hH => ?_)
          refine lv_iinc (v := l3 + 1) (lv' := [(3, .int (l3 + 1)), (2, .int ((((10 : Int32) * l2) + v8) - 48)), (0, .ref l0), (1, .int l1)]) hx hb dX8_number_85 hl (k := 3) rfl rfl (by decide) rfl (fun ls hl => ?_)
          refine lv_goto (tgt := 43) hx hb dX8_number_88 (by decide) ?_
          exact ih43 S10 l0 l1 ((((10 : Int32) * l2) + v8) - 48) (l3 + 1) hf H locs ls hH (lv_sub hl [2, 3, 1, 0] rfl)
  refine lv_aload_n hx hb dX8_number_0 rfl (lv_at hl 0 rfl) ?_
  refine lv_bipush (v := 32) hx hb dX8_number_1 (by decide) ?_
  obtain ⟨hb1, hb2, hf⟩ := hf
  refine q_backV0 X hH (q_runV [.int 32] [] X hH hl (c_X8_needs l D cy G X.2.2.2.1 S a0 32 _ _ hf) mf_X8_needs mv_X8_needs tw_2020 ⟨Nat.le_of_ble_eq_true rfl, Nat.le_of_ble_eq_true rfl⟩ hb1 hb2 (T := TX8) (N := 25) rfl rfl (Nat.le_of_ble_eq_true rfl) dX8_number_3 ⟨Nat.le_of_ble_eq_true rfl, Nat.le_of_ble_eq_true rfl⟩) (fun S1 hf H locs hH => ?_)
  refine lv_aload_n hx hb dX8_number_6 rfl (lv_at hl 0 rfl) ?_
  refine q_getI (T := TX8) (N := 25) X hH hf iw_X8 rfl (by decide) tw_1628 (fun _ h => h) dX8_number_7 (fun v3 hf => ?_)
  refine lv_if_lt (tgt := 15) hx hb dX8_number_10 (by decide) (fun c4 => ?_) (fun c4 => ?_)
  · have hf := (if_pos c4).mp hf
    refine lv_aload_n hx hb dX8_number_15 rfl (lv_at hl 0 rfl) ?_
    obtain ⟨hb1, hb2, hf⟩ := hf
    refine q_backI0 X hH (q_runV [] [] X hH hl (c_X8_sign l D cy G X.2.2.2.1 S1 a0 _ _ hf) mf_X8_sign mv_X8_sign tw_2008 ⟨Nat.le_of_ble_eq_true rfl, Nat.le_of_ble_eq_true rfl⟩ hb1 hb2 (T := TX8) (N := 25) rfl rfl (Nat.le_of_ble_eq_true rfl) dX8_number_16 ⟨Nat.le_of_ble_eq_true rfl, Nat.le_of_ble_eq_true rfl⟩) (fun v6 S5 hf H locs hH => ?_)
    refine lv_bipush (v := 48) hx hb dX8_number_19 (by decide) ?_
    refine lv_bipush (v := 57) hx hb dX8_number_21 (by decide) ?_
    refine q_backI0 X hH (q_runS [.int v6, .int 48, .int 57] [] X hH hl (c_X8_in l D cy G X.2.2.2.1 S5 v6 48 57 _ _ hf) mf_X8_in tw_1695 tw_1694 ⟨Nat.le_of_ble_eq_true rfl, Nat.le_of_ble_eq_true rfl⟩ rfl (Nat.le_of_ble_eq_true rfl) dX8_number_23 ⟨Nat.le_of_ble_eq_true rfl, Nat.le_of_ble_eq_true rfl⟩) (fun v8 S7 hf H locs hH => ?_)
    refine lv_if_ne (tgt := 39) hx hb dX8_number_26 (by decide) (fun c9 => ?_) (fun c9 => ?_)
    · have hf := (if_neg c9).mp hf
      refine lv_iconst (v := 0) hx hb dX8_number_39 (by decide) ?_
      refine lv_istore_n (lv' := [(2, .int 0), (0, .ref a0), (1, .int a1)]) hx hb dX8_number_40 rfl hl (by decide) rfl (fun ls hl => ?_)
      refine lv_iconst (v := 0) hx hb dX8_number_41 (by decide) ?_
      refine lv_istore_n (lv' := [(3, .int 0), (2, .int 0), (0, .ref a0), (1, .int a1)]) hx hb dX8_number_42 rfl hl (by decide) rfl (fun ls hl => ?_)
      exact hL43 4096 S7 a0 a1 0 0 hf H locs ls hH (lv_sub hl [2, 3, 1, 0] rfl)
    · have hf := (if_pos c9).mp hf
      refine lv_aload_n hx hb dX8_number_29 rfl (lv_at hl 0 rfl) ?_
      refine lv_aload_n hx hb dX8_number_30 rfl (lv_at hl 0 rfl) ?_
      refine q_getI (T := TX8) (N := 25) X hH hf iw_X8 rfl (by decide) tw_1627 (fun _ h => h) dX8_number_31 (fun v10 hf => ?_)
      refine q_putV (T := TX8) (N := 25) (ty0 := tyX8) (ty := tyX8 19) X hH hf iw_X8 tyX8_ok nmX8 rfl (by decide) tw_1628 (fun _ h => h) rfl (tyX8_ok 19 (by decide)) rfl rfl dX8_number_34 (fun S11 hf H locs hH => ?_)
      refine lv_iconst (v := 0) hx hb dX8_number_37 (by decide) ?_
      exact q_retI X hH hr hlk hf (Nat.zero_le _) (Nat.zero_le _) dX8_number_38
  · have hf := (if_neg c4).mp hf
    refine lv_iconst (v := 0) hx hb dX8_number_13 (by decide) ?_
    exact q_retI X hH hr hlk hf (Nat.zero_le _) (Nat.zero_le _) dX8_number_14
-- X8_word
def f_X8_word_J180 (post : PS → Prop) (S : PS) (l0 : Nat) : Prop :=
  isO S l0 12 (
  f_X8_signs S l0 97 114 116 fun S1 => (
  post S1))
def f_X8_word (S : PS) (a0 : Nat) (a1 : Int32) (post : PS → Prop) : Prop :=
  if a1 = 98 then
    isO S a0 12 (
    f_X8_signs S a0 111 110 100 fun S2 => (
    post S2))
  else
  if a1 = 99 then
    f_X8_word_J180 post S a0
  else
  if a1 = 100 then
    f_X8_word_J180 post S a0
  else
  if a1 = 101 then
    f_X8_word_J180 post S a0
  else
  if a1 = 102 then
    f_X8_word_J180 post S a0
  else
  if a1 = 103 then
    isO S a0 12 (
    f_X8_needs S a0 111 fun S9 => (
    post S9))
  else
  if a1 = 104 then
    isO S a0 12 (
    f_X8_signs S a0 111 117 115 fun S12 => (
    isO S12 a0 12 (
    f_X8_needs S12 a0 101 fun S14 => (
    post S14))))
  else
  if a1 = 105 then
    f_X8_word_J180 post S a0
  else
  if a1 = 106 then
    f_X8_word_J180 post S a0
  else
  if a1 = 107 then
    f_X8_word_J180 post S a0
  else
  if a1 = 108 then
    isO S a0 12 (
    f_X8_signs S a0 111 111 115 fun S20 => (
    isO S20 a0 12 (
    f_X8_needs S20 a0 101 fun S22 => (
    post S22))))
  else
  if a1 = 109 then
    isO S a0 12 (
    f_X8_signs S a0 97 114 114 fun S25 => (
    isO S25 a0 12 (
    f_X8_needs S25 a0 121 fun S27 => (
    post S27))))
  else
  if a1 = 110 then
    f_X8_word_J180 post S a0
  else
  if a1 = 111 then
    f_X8_word_J180 post S a0
  else
  if a1 = 112 then
    f_X8_word_J180 post S a0
  else
  if a1 = 113 then
    f_X8_word_J180 post S a0
  else
  if a1 = 114 then
    f_X8_word_J180 post S a0
  else
  if a1 = 115 then
    isO S a0 12 (
    f_X8_signs S a0 105 100 101 fun S35 => (
    post S35))
  else
    f_X8_word_J180 post S a0
abbrev rm_X8_word : Room := { frames := 3, cells := 0, slots := 0, locals := 64 }
set_option maxHeartbeats 4000000 in
set_option maxRecDepth 100000 in
theorem c_X8_word (l : Launch) (D : va_G) (cy : Nat → ClassId) (G : p_GT) (hG : p_ok G) (S : PS) (a0 : Nat) (a1 : Int32) (post : PS → Prop) (sz : Nat) (hf : f_X8_word S a0 a1 post) : p_Mv l D cy G S sz yX8_word (Cond.code yX8_word cX8_word 2 none :: wG) rm_X8_word [.ref a0, .int a1] 0 0 post := by
  refine q_start hG (Qc := fun A => va_Qv post (p_Post D cy A) A) mf_X8_word (Nat.le_of_ble_eq_true rfl) (own := RX8) rfl ?_
  intro p e s m below meth c A X hr hlk hnm ls hl hH
  have hx := X.1.1
  have hb := X.1.2.1
  replace hl : lv_has ls 2 [(0, .ref a0), (1, .int a1)] := hl
  obtain ⟨H, hHe⟩ : ∃ H, H = s.heap := ⟨_, rfl⟩
  obtain ⟨locs, hlo⟩ : ∃ locs : List Loc, locs = [] := ⟨_, rfl⟩
  rw [← hHe, ← hlo] at hH
  show W p l e rm_X8_word s m [.ref a0, .int a1].toArray below meth c s.heap [] 0 0 _ _
  rw [← hHe, ← hlo]
  have hJ180 : ∀ (S : PS) (l0 : Nat), f_X8_word_J180 post S l0 → ∀ (H : Heap) (locs : List Loc) (ls : Array Slot), p_H D cy S A s H locs → lv_has ls 2 [(0, .ref l0)] → W p l e rm_X8_word s m [.ref a0, .int a1].toArray below meth c H locs 0 0 (MQ below (va_Qv post (p_Post D cy A) A) [.ref a0, .int a1].toArray s 0 0 A) (F0 m 180 ls []) := by
    intro S l0 hf H locs ls hH hl
    refine lv_aload_n hx hb dX8_word_180 rfl (lv_at hl 0 rfl) ?_
    refine lv_bipush (v := 97) hx hb dX8_word_181 (by decide) ?_
    refine lv_bipush (v := 114) hx hb dX8_word_183 (by decide) ?_
    refine lv_bipush (v := 116) hx hb dX8_word_185 (by decide) ?_
    obtain ⟨hb1, hb2, hf⟩ := hf
    refine q_backV0 X hH (q_runV [.int 97, .int 114, .int 116] [] X hH hl (c_X8_signs l D cy G X.2.2.2.1 S l0 97 114 116 _ _ hf) mf_X8_signs mv_X8_signs tw_2016 ⟨Nat.le_of_ble_eq_true rfl, Nat.le_of_ble_eq_true rfl⟩ hb1 hb2 (T := TX8) (N := 25) rfl rfl (Nat.le_of_ble_eq_true rfl) dX8_word_187 ⟨Nat.le_of_ble_eq_true rfl, Nat.le_of_ble_eq_true rfl⟩) (fun S1 hf H locs hH => ?_)
    exact q_retV X hH hr hlk hf (Nat.zero_le _) (Nat.zero_le _) dX8_word_190
  refine lv_iload_n hx hb dX8_word_0 rfl (lv_at hl 1 rfl) ?_
  by_cases c1 : a1 = 98
  · have hf := (if_pos c1).mp hf
    refine lv_tableIn (off := 115) (tgt := 116) hx hb dX8_word_1 (by rw [c1]; decide) (by rw [c1]; decide) (by rw [c1]; rfl) (by decide) ?_
    refine lv_aload_n hx hb dX8_word_116 rfl (lv_at hl 0 rfl) ?_
    refine lv_bipush (v := 111) hx hb dX8_word_117 (by decide) ?_
    refine lv_bipush (v := 110) hx hb dX8_word_119 (by decide) ?_
    refine lv_bipush (v := 100) hx hb dX8_word_121 (by decide) ?_
    obtain ⟨hb1, hb2, hf⟩ := hf
    refine q_backV0 X hH (q_runV [.int 111, .int 110, .int 100] [] X hH hl (c_X8_signs l D cy G X.2.2.2.1 S a0 111 110 100 _ _ hf) mf_X8_signs mv_X8_signs tw_2016 ⟨Nat.le_of_ble_eq_true rfl, Nat.le_of_ble_eq_true rfl⟩ hb1 hb2 (T := TX8) (N := 25) rfl rfl (Nat.le_of_ble_eq_true rfl) dX8_word_123 ⟨Nat.le_of_ble_eq_true rfl, Nat.le_of_ble_eq_true rfl⟩) (fun S2 hf H locs hH => ?_)
    refine lv_goto (tgt := 190) hx hb dX8_word_126 (by decide) ?_
    exact q_retV X hH hr hlk hf (Nat.zero_le _) (Nat.zero_le _) dX8_word_190
  · have hf := (if_neg c1).mp hf
    by_cases c4 : a1 = 99
    · have hf := (if_pos c4).mp hf
      refine lv_tableIn (off := 179) (tgt := 180) hx hb dX8_word_1 (by rw [c4]; decide) (by rw [c4]; decide) (by rw [c4]; rfl) (by decide) ?_
      exact hJ180 S a0 hf H locs ls hH (lv_sub hl [0] rfl)
    · have hf := (if_neg c4).mp hf
      by_cases c5 : a1 = 100
      · have hf := (if_pos c5).mp hf
        refine lv_tableIn (off := 179) (tgt := 180) hx hb dX8_word_1 (by rw [c5]; decide) (by rw [c5]; decide) (by rw [c5]; rfl) (by decide) ?_
        exact hJ180 S a0 hf H locs ls hH (lv_sub hl [0] rfl)
      · have hf := (if_neg c5).mp hf
        by_cases c6 : a1 = 101
        · have hf := (if_pos c6).mp hf
          refine lv_tableIn (off := 179) (tgt := 180) hx hb dX8_word_1 (by rw [c6]; decide) (by rw [c6]; decide) (by rw [c6]; rfl) (by decide) ?_
          exact hJ180 S a0 hf H locs ls hH (lv_sub hl [0] rfl)
        · have hf := (if_neg c6).mp hf
          by_cases c7 : a1 = 102
          · have hf := (if_pos c7).mp hf
            refine lv_tableIn (off := 179) (tgt := 180) hx hb dX8_word_1 (by rw [c7]; decide) (by rw [c7]; decide) (by rw [c7]; rfl) (by decide) ?_
            exact hJ180 S a0 hf H locs ls hH (lv_sub hl [0] rfl)
          · have hf := (if_neg c7).mp hf
            by_cases c8 : a1 = 103
            · have hf := (if_pos c8).mp hf
              refine lv_tableIn (off := 106) (tgt := 107) hx hb dX8_word_1 (by rw [c8]; decide) (by rw [c8]; decide) (by rw [c8]; rfl) (by decide) ?_
              refine lv_aload_n hx hb dX8_word_107 rfl (lv_at hl 0 rfl) ?_
              refine lv_bipush (v := 111) hx hb dX8_word_108 (by decide) ?_
              obtain ⟨hb1, hb2, hf⟩ := hf
              refine q_backV0 X hH (q_runV [.int 111] [] X hH hl (c_X8_needs l D cy G X.2.2.2.1 S a0 111 _ _ hf) mf_X8_needs mv_X8_needs tw_2020 ⟨Nat.le_of_ble_eq_true rfl, Nat.le_of_ble_eq_true rfl⟩ hb1 hb2 (T := TX8) (N := 25) rfl rfl (Nat.le_of_ble_eq_true rfl) dX8_word_110 ⟨Nat.le_of_ble_eq_true rfl, Nat.le_of_ble_eq_true rfl⟩) (fun S9 hf H locs hH => ?_)
              refine lv_goto (tgt := 190) hx hb dX8_word_113 (by decide) ?_
              exact q_retV X hH hr hlk hf (Nat.zero_le _) (Nat.zero_le _) dX8_word_190
            · have hf := (if_neg c8).mp hf
              by_cases c11 : a1 = 104
              · have hf := (if_pos c11).mp hf
                refine lv_tableIn (off := 87) (tgt := 88) hx hb dX8_word_1 (by rw [c11]; decide) (by rw [c11]; decide) (by rw [c11]; rfl) (by decide) ?_
                refine lv_aload_n hx hb dX8_word_88 rfl (lv_at hl 0 rfl) ?_
                refine lv_bipush (v := 111) hx hb dX8_word_89 (by decide) ?_
                refine lv_bipush (v := 117) hx hb dX8_word_91 (by decide) ?_
                refine lv_bipush (v := 115) hx hb dX8_word_93 (by decide) ?_
                obtain ⟨hb1, hb2, hf⟩ := hf
                refine q_backV0 X hH (q_runV [.int 111, .int 117, .int 115] [] X hH hl (c_X8_signs l D cy G X.2.2.2.1 S a0 111 117 115 _ _ hf) mf_X8_signs mv_X8_signs tw_2016 ⟨Nat.le_of_ble_eq_true rfl, Nat.le_of_ble_eq_true rfl⟩ hb1 hb2 (T := TX8) (N := 25) rfl rfl (Nat.le_of_ble_eq_true rfl) dX8_word_95 ⟨Nat.le_of_ble_eq_true rfl, Nat.le_of_ble_eq_true rfl⟩) (fun S12 hf H locs hH => ?_)
                refine lv_aload_n hx hb dX8_word_98 rfl (lv_at hl 0 rfl) ?_
                refine lv_bipush (v := 101) hx hb dX8_word_99 (by decide) ?_
                obtain ⟨hb1, hb2, hf⟩ := hf
                refine q_backV0 X hH (q_runV [.int 101] [] X hH hl (c_X8_needs l D cy G X.2.2.2.1 S12 a0 101 _ _ hf) mf_X8_needs mv_X8_needs tw_2020 ⟨Nat.le_of_ble_eq_true rfl, Nat.le_of_ble_eq_true rfl⟩ hb1 hb2 (T := TX8) (N := 25) rfl rfl (Nat.le_of_ble_eq_true rfl) dX8_word_101 ⟨Nat.le_of_ble_eq_true rfl, Nat.le_of_ble_eq_true rfl⟩) (fun S14 hf H locs hH => ?_)
                refine lv_goto (tgt := 190) hx hb dX8_word_104 (by decide) ?_
                exact q_retV X hH hr hlk hf (Nat.zero_le _) (Nat.zero_le _) dX8_word_190
              · have hf := (if_neg c11).mp hf
                by_cases c16 : a1 = 105
                · have hf := (if_pos c16).mp hf
                  refine lv_tableIn (off := 179) (tgt := 180) hx hb dX8_word_1 (by rw [c16]; decide) (by rw [c16]; decide) (by rw [c16]; rfl) (by decide) ?_
                  exact hJ180 S a0 hf H locs ls hH (lv_sub hl [0] rfl)
                · have hf := (if_neg c16).mp hf
                  by_cases c17 : a1 = 106
                  · have hf := (if_pos c17).mp hf
                    refine lv_tableIn (off := 179) (tgt := 180) hx hb dX8_word_1 (by rw [c17]; decide) (by rw [c17]; decide) (by rw [c17]; rfl) (by decide) ?_
                    exact hJ180 S a0 hf H locs ls hH (lv_sub hl [0] rfl)
                  · have hf := (if_neg c17).mp hf
                    by_cases c18 : a1 = 107
                    · have hf := (if_pos c18).mp hf
                      refine lv_tableIn (off := 179) (tgt := 180) hx hb dX8_word_1 (by rw [c18]; decide) (by rw [c18]; decide) (by rw [c18]; rfl) (by decide) ?_
                      exact hJ180 S a0 hf H locs ls hH (lv_sub hl [0] rfl)
                    · have hf := (if_neg c18).mp hf
                      by_cases c19 : a1 = 108
                      · have hf := (if_pos c19).mp hf
                        refine lv_tableIn (off := 128) (tgt := 129) hx hb dX8_word_1 (by rw [c19]; decide) (by rw [c19]; decide) (by rw [c19]; rfl) (by decide) ?_
                        refine lv_aload_n hx hb dX8_word_129 rfl (lv_at hl 0 rfl) ?_
                        refine lv_bipush (v := 111) hx hb dX8_word_130 (by decide) ?_
                        refine lv_bipush (v := 111) hx hb dX8_word_132 (by decide) ?_
                        refine lv_bipush (v := 115) hx hb dX8_word_134 (by decide) ?_
                        obtain ⟨hb1, hb2, hf⟩ := hf
                        refine q_backV0 X hH (q_runV [.int 111, .int 111, .int 115] [] X hH hl (c_X8_signs l D cy G X.2.2.2.1 S a0 111 111 115 _ _ hf) mf_X8_signs mv_X8_signs tw_2016 ⟨Nat.le_of_ble_eq_true rfl, Nat.le_of_ble_eq_true rfl⟩ hb1 hb2 (T := TX8) (N := 25) rfl rfl (Nat.le_of_ble_eq_true rfl) dX8_word_136 ⟨Nat.le_of_ble_eq_true rfl, Nat.le_of_ble_eq_true rfl⟩) (fun S20 hf H locs hH => ?_)
                        refine lv_aload_n hx hb dX8_word_139 rfl (lv_at hl 0 rfl) ?_
                        refine lv_bipush (v := 101) hx hb dX8_word_140 (by decide) ?_
                        obtain ⟨hb1, hb2, hf⟩ := hf
                        refine q_backV0 X hH (q_runV [.int 101] [] X hH hl (c_X8_needs l D cy G X.2.2.2.1 S20 a0 101 _ _ hf) mf_X8_needs mv_X8_needs tw_2020 ⟨Nat.le_of_ble_eq_true rfl, Nat.le_of_ble_eq_true rfl⟩ hb1 hb2 (T := TX8) (N := 25) rfl rfl (Nat.le_of_ble_eq_true rfl) dX8_word_142 ⟨Nat.le_of_ble_eq_true rfl, Nat.le_of_ble_eq_true rfl⟩) (fun S22 hf H locs hH => ?_)
                        refine lv_goto (tgt := 190) hx hb dX8_word_145 (by decide) ?_
                        exact q_retV X hH hr hlk hf (Nat.zero_le _) (Nat.zero_le _) dX8_word_190
                      · have hf := (if_neg c19).mp hf
                        by_cases c24 : a1 = 109
                        · have hf := (if_pos c24).mp hf
                          refine lv_tableIn (off := 147) (tgt := 148) hx hb dX8_word_1 (by rw [c24]; decide) (by rw [c24]; decide) (by rw [c24]; rfl) (by decide) ?_
                          refine lv_aload_n hx hb dX8_word_148 rfl (lv_at hl 0 rfl) ?_
                          refine lv_bipush (v := 97) hx hb dX8_word_149 (by decide) ?_
                          refine lv_bipush (v := 114) hx hb dX8_word_151 (by decide) ?_
                          refine lv_bipush (v := 114) hx hb dX8_word_153 (by decide) ?_
                          obtain ⟨hb1, hb2, hf⟩ := hf
                          refine q_backV0 X hH (q_runV [.int 97, .int 114, .int 114] [] X hH hl (c_X8_signs l D cy G X.2.2.2.1 S a0 97 114 114 _ _ hf) mf_X8_signs mv_X8_signs tw_2016 ⟨Nat.le_of_ble_eq_true rfl, Nat.le_of_ble_eq_true rfl⟩ hb1 hb2 (T := TX8) (N := 25) rfl rfl (Nat.le_of_ble_eq_true rfl) dX8_word_155 ⟨Nat.le_of_ble_eq_true rfl, Nat.le_of_ble_eq_true rfl⟩) (fun S25 hf H locs hH => ?_)
                          refine lv_aload_n hx hb dX8_word_158 rfl (lv_at hl 0 rfl) ?_
                          refine lv_bipush (v := 121) hx hb dX8_word_159 (by decide) ?_
                          obtain ⟨hb1, hb2, hf⟩ := hf
                          refine q_backV0 X hH (q_runV [.int 121] [] X hH hl (c_X8_needs l D cy G X.2.2.2.1 S25 a0 121 _ _ hf) mf_X8_needs mv_X8_needs tw_2020 ⟨Nat.le_of_ble_eq_true rfl, Nat.le_of_ble_eq_true rfl⟩ hb1 hb2 (T := TX8) (N := 25) rfl rfl (Nat.le_of_ble_eq_true rfl) dX8_word_161 ⟨Nat.le_of_ble_eq_true rfl, Nat.le_of_ble_eq_true rfl⟩) (fun S27 hf H locs hH => ?_)
                          refine lv_goto (tgt := 190) hx hb dX8_word_164 (by decide) ?_
                          exact q_retV X hH hr hlk hf (Nat.zero_le _) (Nat.zero_le _) dX8_word_190
                        · have hf := (if_neg c24).mp hf
                          by_cases c29 : a1 = 110
                          · have hf := (if_pos c29).mp hf
                            refine lv_tableIn (off := 179) (tgt := 180) hx hb dX8_word_1 (by rw [c29]; decide) (by rw [c29]; decide) (by rw [c29]; rfl) (by decide) ?_
                            exact hJ180 S a0 hf H locs ls hH (lv_sub hl [0] rfl)
                          · have hf := (if_neg c29).mp hf
                            by_cases c30 : a1 = 111
                            · have hf := (if_pos c30).mp hf
                              refine lv_tableIn (off := 179) (tgt := 180) hx hb dX8_word_1 (by rw [c30]; decide) (by rw [c30]; decide) (by rw [c30]; rfl) (by decide) ?_
                              exact hJ180 S a0 hf H locs ls hH (lv_sub hl [0] rfl)
                            · have hf := (if_neg c30).mp hf
                              by_cases c31 : a1 = 112
                              · have hf := (if_pos c31).mp hf
                                refine lv_tableIn (off := 179) (tgt := 180) hx hb dX8_word_1 (by rw [c31]; decide) (by rw [c31]; decide) (by rw [c31]; rfl) (by decide) ?_
                                exact hJ180 S a0 hf H locs ls hH (lv_sub hl [0] rfl)
                              · have hf := (if_neg c31).mp hf
                                by_cases c32 : a1 = 113
                                · have hf := (if_pos c32).mp hf
                                  refine lv_tableIn (off := 179) (tgt := 180) hx hb dX8_word_1 (by rw [c32]; decide) (by rw [c32]; decide) (by rw [c32]; rfl) (by decide) ?_
                                  exact hJ180 S a0 hf H locs ls hH (lv_sub hl [0] rfl)
                                · have hf := (if_neg c32).mp hf
                                  by_cases c33 : a1 = 114
                                  · have hf := (if_pos c33).mp hf
                                    refine lv_tableIn (off := 179) (tgt := 180) hx hb dX8_word_1 (by rw [c33]; decide) (by rw [c33]; decide) (by rw [c33]; rfl) (by decide) ?_
                                    exact hJ180 S a0 hf H locs ls hH (lv_sub hl [0] rfl)
                                  · have hf := (if_neg c33).mp hf
                                    by_cases c34 : a1 = 115
                                    · have hf := (if_pos c34).mp hf
                                      refine lv_tableIn (off := 166) (tgt := 167) hx hb dX8_word_1 (by rw [c34]; decide) (by rw [c34]; decide) (by rw [c34]; rfl) (by decide) ?_
                                      refine lv_aload_n hx hb dX8_word_167 rfl (lv_at hl 0 rfl) ?_
                                      refine lv_bipush (v := 105) hx hb dX8_word_168 (by decide) ?_
                                      refine lv_bipush (v := 100) hx hb dX8_word_170 (by decide) ?_
                                      refine lv_bipush (v := 101) hx hb dX8_word_172 (by decide) ?_
                                      obtain ⟨hb1, hb2, hf⟩ := hf
                                      refine q_backV0 X hH (q_runV [.int 105, .int 100, .int 101] [] X hH hl (c_X8_signs l D cy G X.2.2.2.1 S a0 105 100 101 _ _ hf) mf_X8_signs mv_X8_signs tw_2016 ⟨Nat.le_of_ble_eq_true rfl, Nat.le_of_ble_eq_true rfl⟩ hb1 hb2 (T := TX8) (N := 25) rfl rfl (Nat.le_of_ble_eq_true rfl) dX8_word_174 ⟨Nat.le_of_ble_eq_true rfl, Nat.le_of_ble_eq_true rfl⟩) (fun S35 hf H locs hH => ?_)
                                      refine lv_goto (tgt := 190) hx hb dX8_word_177 (by decide) ?_
                                      exact q_retV X hH hr hlk hf (Nat.zero_le _) (Nat.zero_le _) dX8_word_190
                                    · have hf := (if_neg c34).mp hf
                                      refine lv_tableOut (tgt := 180) hx hb dX8_word_1 (by have z0 := lv_neT c1 (a := 98) rfl; have z1 := lv_neT c4 (a := 99) rfl; have z2 := lv_neT c5 (a := 100) rfl; have z3 := lv_neT c6 (a := 101) rfl; have z4 := lv_neT c7 (a := 102) rfl; have z5 := lv_neT c8 (a := 103) rfl; have z6 := lv_neT c11 (a := 104) rfl; have z7 := lv_neT c16 (a := 105) rfl; have z8 := lv_neT c17 (a := 106) rfl; have z9 := lv_neT c18 (a := 107) rfl; have z10 := lv_neT c19 (a := 108) rfl; have z11 := lv_neT c24 (a := 109) rfl; have z12 := lv_neT c29 (a := 110) rfl; have z13 := lv_neT c30 (a := 111) rfl; have z14 := lv_neT c31 (a := 112) rfl; have z15 := lv_neT c32 (a := 113) rfl; have z16 := lv_neT c33 (a := 114) rfl; have z17 := lv_neT c34 (a := 115) rfl; omega) (by decide) ?_
                                      exact hJ180 S a0 hf H locs ls hH (lv_sub hl [0] rfl)
-- X8_order
def f_X8_order_J95 (post : PS → Prop) (S : PS) (l0 : Nat) (l1 : Int32) (l2 : Int32) : Prop :=
  gI S l0 12 18 fun v1 => (
  pV S l0 12 18 (.int (v1 + 1)) fun S2 => (
  isO S2 l0 12 (
  f_X8_word S2 l0 l2 fun S3 => (
  gR S3 l0 12 21 fun v5 => (
  sI S3 v5 0 l1 l2 fun S6 => (
  if l2 = 104 then
    post S6
  else
    if l2 = 112 then
      post S6
    else
      gR S6 l0 12 21 fun v9 => (
      isO S6 l0 12 (
      f_X8_number S6 l0 1 fun v11 S10 => (
      sI S10 v9 0 (l1 + 1) v11 fun S12 => (
      if l2 = 103 then
        post S12
      else
        gR S12 l0 12 21 fun v14 => (
        isO S12 l0 12 (
        f_X8_number S12 l0 1 fun v16 S15 => (
        sI S15 v14 0 (l1 + 2) v16 fun S17 => (
        if l2 = 98 then
          gR S17 l0 12 21 fun v19 => (
          isO S17 l0 12 (
          f_X8_number S17 l0 2 fun v21 S20 => (
          sI S20 v19 0 (l1 + 3) v21 fun S22 => (
          post S22))))
        else
          post S17))))))))))))))
def f_X8_order_J44 (post : PS → Prop) (S : PS) (l0 : Nat) (l1 : Int32) (l2 : Int32) : Prop :=
  if l2 = 104 then
    f_X8_order_J95 post S l0 l1 l2
  else
    if l2 = 103 then
      f_X8_order_J95 post S l0 l1 l2
    else
      if l2 = 98 then
        f_X8_order_J95 post S l0 l1 l2
      else
        if l2 = 108 then
          f_X8_order_J95 post S l0 l1 l2
        else
          if l2 = 109 then
            f_X8_order_J95 post S l0 l1 l2
          else
            if l2 = 115 then
              f_X8_order_J95 post S l0 l1 l2
            else
              if l2 = 112 then
                f_X8_order_J95 post S l0 l1 l2
              else
                gI S l0 12 18 fun v8 => (
                pV S l0 12 19 (.int v8) fun S9 => (
                post S9))
def f_X8_order_L24 (post : PS → Prop) : Nat → PS → Nat → Int32 → Int32 → Int32 → Prop
  | 0, _, _, _, _, _ => False
  | n + 1, S, l0, l1, l2, l3 =>
  if 4 ≤ l3 then
    f_X8_order_J44 post S l0 l1 l2
  else
    gR S l0 12 21 fun v2 => (
    sI S v2 0 (l1 + l3) 0 fun S3 => (
    (f_X8_order_L24 post n) S3 l0 l1 l2 (l3 + 1)))
def f_X8_order (S : PS) (a0 : Nat) (post : PS → Prop) : Prop :=
  gI S a0 12 22 fun v1 => (
  gI S a0 12 22 fun v2 => (
  pV S a0 12 22 (.int (v2 + 1)) fun S3 => (
  isO S3 a0 12 (
  f_X8_sign S3 a0 fun v5 S4 => (
  f_X8_order_L24 post 4096 S4 a0 ((4 : Int32) * v1) v5 0)))))
abbrev rm_X8_order : Room := { frames := 4, cells := 0, slots := 0, locals := 85 }
set_option maxHeartbeats 4000000 in
set_option maxRecDepth 100000 in
theorem c_X8_order (l : Launch) (D : va_G) (cy : Nat → ClassId) (G : p_GT) (hG : p_ok G) (S : PS) (a0 : Nat) (post : PS → Prop) (sz : Nat) (hf : f_X8_order S a0 post) : p_Mv l D cy G S sz yX8_order (Cond.code yX8_order cX8_order 4 none :: wG) rm_X8_order [.ref a0] 0 0 post := by
  refine q_start hG (Qc := fun A => va_Qv post (p_Post D cy A) A) mf_X8_order (Nat.le_of_ble_eq_true rfl) (own := RX8) rfl ?_
  intro p e s m below meth c A X hr hlk hnm ls hl hH
  have hx := X.1.1
  have hb := X.1.2.1
  replace hl : lv_has ls 4 [(0, .ref a0)] := hl
  obtain ⟨H, hHe⟩ : ∃ H, H = s.heap := ⟨_, rfl⟩
  obtain ⟨locs, hlo⟩ : ∃ locs : List Loc, locs = [] := ⟨_, rfl⟩
  rw [← hHe, ← hlo] at hH
  show W p l e rm_X8_order s m [.ref a0].toArray below meth c s.heap [] 0 0 _ _
  rw [← hHe, ← hlo]
  have hL24 : ∀ (n24 : Nat) (S : PS) (l0 : Nat) (l1 : Int32) (l2 : Int32) (l3 : Int32), f_X8_order_L24 post n24 S l0 l1 l2 l3 → ∀ (H : Heap) (locs : List Loc) (ls : Array Slot), p_H D cy S A s H locs → lv_has ls 4 [(0, .ref l0), (1, .int l1), (2, .int l2), (3, .int l3)] → W p l e rm_X8_order s m [.ref a0].toArray below meth c H locs 0 0 (MQ below (va_Qv post (p_Post D cy A) A) [.ref a0].toArray s 0 0 A) (F0 m 24 ls []) := by
    intro n24
    induction n24 with
    | zero => intro S l0 l1 l2 l3 hf; exact hf.elim
    | succ n24 ih24 =>
      intro S l0 l1 l2 l3 hf H locs ls hH hl
      have hJ44 : ∀ (S : PS) (l0 : Nat) (l1 : Int32) (l2 : Int32), f_X8_order_J44 post S l0 l1 l2 → ∀ (H : Heap) (locs : List Loc) (ls : Array Slot), p_H D cy S A s H locs → lv_has ls 4 [(0, .ref l0), (1, .int l1), (2, .int l2)] → W p l e rm_X8_order s m [.ref a0].toArray below meth c H locs 0 0 (MQ below (va_Qv post (p_Post D cy A) A) [.ref a0].toArray s 0 0 A) (F0 m 44 ls []) := by
        intro S l0 l1 l2 hf H locs ls hH hl
        have hJ95 : ∀ (S : PS) (l0 : Nat) (l1 : Int32) (l2 : Int32), f_X8_order_J95 post S l0 l1 l2 → ∀ (H : Heap) (locs : List Loc) (ls : Array Slot), p_H D cy S A s H locs → lv_has ls 4 [(0, .ref l0), (1, .int l1), (2, .int l2)] → W p l e rm_X8_order s m [.ref a0].toArray below meth c H locs 0 0 (MQ below (va_Qv post (p_Post D cy A) A) [.ref a0].toArray s 0 0 A) (F0 m 95 ls []) := by
          intro S l0 l1 l2 hf H locs ls hH hl
          refine lv_aload_n hx hb dX8_order_95 rfl (lv_at hl 0 rfl) ?_
          refine lv_dup hx hb dX8_order_96 rfl ?_
          refine q_getI (T := TX8) (N := 25) X hH hf iw_X8 rfl (by decide) tw_1627 (fun _ h => h) dX8_order_97 (fun v1 hf => ?_)
          refine lv_iconst (v := 1) hx hb dX8_order_100 (by decide) ?_
          refine lv_iadd hx hb dX8_order_101 ?_
          refine q_putV (T := TX8) (N := 25) (ty0 := tyX8) (ty := tyX8 18) X hH hf iw_X8 tyX8_ok nmX8 rfl (by decide) tw_1627 (fun _ h => h) rfl (tyX8_ok 18 (by decide)) rfl rfl dX8_order_102 (fun S2 hf H locs hH => ?_)
          refine lv_aload_n hx hb dX8_order_105 rfl (lv_at hl 0 rfl) ?_
          refine lv_iload_n hx hb dX8_order_106 rfl (lv_at hl 2 rfl) ?_
          obtain ⟨hb1, hb2, hf⟩ := hf
          refine q_backV0 X hH (q_runV [.int l2] [] X hH hl (c_X8_word l D cy G X.2.2.2.1 S2 l0 l2 _ _ hf) mf_X8_word mv_X8_word tw_2012 ⟨Nat.le_of_ble_eq_true rfl, Nat.le_of_ble_eq_true rfl⟩ hb1 hb2 (T := TX8) (N := 25) rfl rfl (Nat.le_of_ble_eq_true rfl) dX8_order_107 ⟨Nat.le_of_ble_eq_true rfl, Nat.le_of_ble_eq_true rfl⟩) (fun S3 hf H locs hH => ?_)
          refine lv_aload_n hx hb dX8_order_110 rfl (lv_at hl 0 rfl) ?_
          refine q_getR (T := TX8) (N := 25) X hH hf iw_X8 rfl (by decide) tw_1630 (fun _ h => h) dX8_order_111 (fun v5 hf => ?_)
          refine lv_iload_n hx hb dX8_order_114 rfl (lv_at hl 1 rfl) ?_
          refine lv_iload_n hx hb dX8_order_115 rfl (lv_at hl 2 rfl) ?_
          refine q_iast X hH hf dX8_order_116 (fun S6 hf H locs hH => ?_)
          refine lv_iload_n hx hb dX8_order_117 rfl (lv_at hl 2 rfl) ?_
          refine lv_bipush (v := 104) hx hb dX8_order_118 (by decide) ?_
          refine lv_icmp_eq (tgt := 129) hx hb dX8_order_120 (by decide) (fun c7 => ?_) (fun c7 => ?_)
          · have hf := (if_pos c7).mp hf
            exact q_retV X hH hr hlk hf (Nat.zero_le _) (Nat.zero_le _) dX8_order_129
          · have hf := (if_neg c7).mp hf
            refine lv_iload_n hx hb dX8_order_123 rfl (lv_at hl 2 rfl) ?_
            refine lv_bipush (v := 112) hx hb dX8_order_124 (by decide) ?_
            refine lv_icmp_ne (tgt := 130) hx hb dX8_order_126 (by decide) (fun c8 => ?_) (fun c8 => ?_)
            · have hf := (if_neg c8).mp hf
              refine lv_aload_n hx hb dX8_order_130 rfl (lv_at hl 0 rfl) ?_
              refine q_getR (T := TX8) (N := 25) X hH hf iw_X8 rfl (by decide) tw_1630 (fun _ h => h) dX8_order_131 (fun v9 hf => ?_)
              refine lv_iload_n hx hb dX8_order_134 rfl (lv_at hl 1 rfl) ?_
              refine lv_iconst (v := 1) hx hb dX8_order_135 (by decide) ?_
              refine lv_iadd hx hb dX8_order_136 ?_
              refine lv_aload_n hx hb dX8_order_137 rfl (lv_at hl 0 rfl) ?_
              refine lv_iconst (v := 1) hx hb dX8_order_138 (by decide) ?_
              obtain ⟨hb1, hb2, hf⟩ := hf
              refine q_backI0 X hH (q_runV [.int 1] [.int (l1 + 1), .ref v9] X hH hl (c_X8_number l D cy G X.2.2.2.1 S6 l0 1 _ _ hf) mf_X8_number mv_X8_number tw_2024 ⟨Nat.le_of_ble_eq_true rfl, Nat.le_of_ble_eq_true rfl⟩ hb1 hb2 (T := TX8) (N := 25) rfl rfl (Nat.le_of_ble_eq_true rfl) dX8_order_139 ⟨Nat.le_of_ble_eq_true rfl, Nat.le_of_ble_eq_true rfl⟩) (fun v11 S10 hf H locs hH => ?_)
              refine q_iast X hH hf dX8_order_142 (fun S12 hf H locs hH => ?_)
              refine lv_iload_n hx hb dX8_order_143 rfl (lv_at hl 2 rfl) ?_
              refine lv_bipush (v := 103) hx hb dX8_order_144 (by decide) ?_
              refine lv_icmp_ne (tgt := 150) hx hb dX8_order_146 (by decide) (fun c13 => ?_) (fun c13 => ?_)
              · have hf := (if_neg c13).mp hf
                refine lv_aload_n hx hb dX8_order_150 rfl (lv_at hl 0 rfl) ?_
                refine q_getR (T := TX8) (N := 25) X hH hf iw_X8 rfl (by decide) tw_1630 (fun _ h => h) dX8_order_151 (fun v14 hf => ?_)
                refine lv_iload_n hx hb dX8_order_154 rfl (lv_at hl 1 rfl) ?_
                refine lv_iconst (v := 2) hx hb dX8_order_155 (by decide) ?_
                refine lv_iadd hx hb dX8_order_156 ?_
                refine lv_aload_n hx hb dX8_order_157 rfl (lv_at hl 0 rfl) ?_
                refine lv_iconst (v := 1) hx hb dX8_order_158 (by decide) ?_
                obtain ⟨hb1, hb2, hf⟩ := hf
                refine q_backI0 X hH (q_runV [.int 1] [.int (l1 + 2), .ref v14] X hH hl (c_X8_number l D cy G X.2.2.2.1 S12 l0 1 _ _ hf) mf_X8_number mv_X8_number tw_2024 ⟨Nat.le_of_ble_eq_true rfl, Nat.le_of_ble_eq_true rfl⟩ hb1 hb2 (T := TX8) (N := 25) rfl rfl (Nat.le_of_ble_eq_true rfl) dX8_order_159 ⟨Nat.le_of_ble_eq_true rfl, Nat.le_of_ble_eq_true rfl⟩) (fun v16 S15 hf H locs hH => ?_)
                refine q_iast X hH hf dX8_order_162 (fun S17 hf H locs hH => ?_)
                refine lv_iload_n hx hb dX8_order_163 rfl (lv_at hl 2 rfl) ?_
                refine lv_bipush (v := 98) hx hb dX8_order_164 (by decide) ?_
                refine lv_icmp_ne (tgt := 182) hx hb dX8_order_166 (by decide) (fun c18 => ?_) (fun c18 => ?_)
                · have hf := (if_neg c18).mp hf
                  exact q_retV X hH hr hlk hf (Nat.zero_le _) (Nat.zero_le _) dX8_order_182
                · have hf := (if_pos c18).mp hf
                  refine lv_aload_n hx hb dX8_order_169 rfl (lv_at hl 0 rfl) ?_
                  refine q_getR (T := TX8) (N := 25) X hH hf iw_X8 rfl (by decide) tw_1630 (fun _ h => h) dX8_order_170 (fun v19 hf => ?_)
                  refine lv_iload_n hx hb dX8_order_173 rfl (lv_at hl 1 rfl) ?_
                  refine lv_iconst (v := 3) hx hb dX8_order_174 (by decide) ?_
                  refine lv_iadd hx hb dX8_order_175 ?_
                  refine lv_aload_n hx hb dX8_order_176 rfl (lv_at hl 0 rfl) ?_
                  refine lv_iconst (v := 2) hx hb dX8_order_177 (by decide) ?_
                  obtain ⟨hb1, hb2, hf⟩ := hf
                  refine q_backI0 X hH (q_runV [.int 2] [.int (l1 + 3), .ref v19] X hH hl (c_X8_number l D cy G X.2.2.2.1 S17 l0 2 _ _ hf) mf_X8_number mv_X8_number tw_2024 ⟨Nat.le_of_ble_eq_true rfl, Nat.le_of_ble_eq_true rfl⟩ hb1 hb2 (T := TX8) (N := 25) rfl rfl (Nat.le_of_ble_eq_true rfl) dX8_order_178 ⟨Nat.le_of_ble_eq_true rfl, Nat.le_of_ble_eq_true rfl⟩) (fun v21 S20 hf H locs hH => ?_)
                  refine q_iast X hH hf dX8_order_181 (fun S22 hf H locs hH => ?_)
                  exact q_retV X hH hr hlk hf (Nat.zero_le _) (Nat.zero_le _) dX8_order_182
              · have hf := (if_pos c13).mp hf
                exact q_retV X hH hr hlk hf (Nat.zero_le _) (Nat.zero_le _) dX8_order_149
            · have hf := (if_pos c8).mp hf
              exact q_retV X hH hr hlk hf (Nat.zero_le _) (Nat.zero_le _) dX8_order_129
        refine lv_iload_n hx hb dX8_order_44 rfl (lv_at hl 2 rfl) ?_
        refine lv_bipush (v := 104) hx hb dX8_order_45 (by decide) ?_
        refine lv_icmp_eq (tgt := 95) hx hb dX8_order_47 (by decide) (fun c1 => ?_) (fun c1 => ?_)
        · have hf := (if_pos c1).mp hf
          exact hJ95 S l0 l1 l2 hf H locs ls hH hl
        · have hf := (if_neg c1).mp hf
          refine lv_iload_n hx hb dX8_order_50 rfl (lv_at hl 2 rfl) ?_
          refine lv_bipush (v := 103) hx hb dX8_order_51 (by decide) ?_
          refine lv_icmp_eq (tgt := 95) hx hb dX8_order_53 (by decide) (fun c2 => ?_) (fun c2 => ?_)
          · have hf := (if_pos c2).mp hf
            exact hJ95 S l0 l1 l2 hf H locs ls hH hl
          · have hf := (if_neg c2).mp hf
            refine lv_iload_n hx hb dX8_order_56 rfl (lv_at hl 2 rfl) ?_
            refine lv_bipush (v := 98) hx hb dX8_order_57 (by decide) ?_
            refine lv_icmp_eq (tgt := 95) hx hb dX8_order_59 (by decide) (fun c3 => ?_) (fun c3 => ?_)
            · have hf := (if_pos c3).mp hf
              exact hJ95 S l0 l1 l2 hf H locs ls hH hl
            · have hf := (if_neg c3).mp hf
              refine lv_iload_n hx hb dX8_order_62 rfl (lv_at hl 2 rfl) ?_
              refine lv_bipush (v := 108) hx hb dX8_order_63 (by decide) ?_
              refine lv_icmp_eq (tgt := 95) hx hb dX8_order_65 (by decide) (fun c4 => ?_) (fun c4 => ?_)
              · have hf := (if_pos c4).mp hf
                exact hJ95 S l0 l1 l2 hf H locs ls hH hl
              · have hf := (if_neg c4).mp hf
                refine lv_iload_n hx hb dX8_order_68 rfl (lv_at hl 2 rfl) ?_
                refine lv_bipush (v := 109) hx hb dX8_order_69 (by decide) ?_
                refine lv_icmp_eq (tgt := 95) hx hb dX8_order_71 (by decide) (fun c5 => ?_) (fun c5 => ?_)
                · have hf := (if_pos c5).mp hf
                  exact hJ95 S l0 l1 l2 hf H locs ls hH hl
                · have hf := (if_neg c5).mp hf
                  refine lv_iload_n hx hb dX8_order_74 rfl (lv_at hl 2 rfl) ?_
                  refine lv_bipush (v := 115) hx hb dX8_order_75 (by decide) ?_
                  refine lv_icmp_eq (tgt := 95) hx hb dX8_order_77 (by decide) (fun c6 => ?_) (fun c6 => ?_)
                  · have hf := (if_pos c6).mp hf
                    exact hJ95 S l0 l1 l2 hf H locs ls hH hl
                  · have hf := (if_neg c6).mp hf
                    refine lv_iload_n hx hb dX8_order_80 rfl (lv_at hl 2 rfl) ?_
                    refine lv_bipush (v := 112) hx hb dX8_order_81 (by decide) ?_
                    refine lv_icmp_eq (tgt := 95) hx hb dX8_order_83 (by decide) (fun c7 => ?_) (fun c7 => ?_)
                    · have hf := (if_pos c7).mp hf
                      exact hJ95 S l0 l1 l2 hf H locs ls hH hl
                    · have hf := (if_neg c7).mp hf
                      refine lv_aload_n hx hb dX8_order_86 rfl (lv_at hl 0 rfl) ?_
                      refine lv_aload_n hx hb dX8_order_87 rfl (lv_at hl 0 rfl) ?_
                      refine q_getI (T := TX8) (N := 25) X hH hf iw_X8 rfl (by decide) tw_1627 (fun _ h => h) dX8_order_88 (fun v8 hf => ?_)
                      refine q_putV (T := TX8) (N := 25) (ty0 := tyX8) (ty := tyX8 19) X hH hf iw_X8 tyX8_ok nmX8 rfl (by decide) tw_1628 (fun _ h => h) rfl (tyX8_ok 19 (by decide)) rfl rfl dX8_order_91 (fun S9 hf H locs hH => ?_)
                      exact q_retV X hH hr hlk hf (Nat.zero_le _) (Nat.zero_le _) dX8_order_94
      refine lv_iload_n hx hb dX8_order_24 rfl (lv_at hl 3 rfl) ?_
      refine lv_iconst (v := 4) hx hb dX8_order_25 (by decide) ?_
      refine lv_icmp_ge (tgt := 44) hx hb dX8_order_26 (by decide) (fun c1 => ?_) (fun c1 => ?_)
      · have hf := (if_pos c1).mp hf
        exact hJ44 S l0 l1 l2 hf H locs ls hH (lv_sub hl [0, 1, 2] rfl)
      · have hf := (if_neg c1).mp hf
        refine lv_aload_n hx hb dX8_order_29 rfl (lv_at hl 0 rfl) ?_
        refine q_getR (T := TX8) (N := 25) X hH hf iw_X8 rfl (by decide) tw_1630 (fun _ h => h) dX8_order_30 (fun v2 hf => ?_)
        refine lv_iload_n hx hb dX8_order_33 rfl (lv_at hl 1 rfl) ?_
        refine lv_iload_n hx hb dX8_order_34 rfl (lv_at hl 3 rfl) ?_
        refine lv_iadd hx hb dX8_order_35 ?_
        refine lv_iconst (v := 0) hx hb dX8_order_36 (by decide) ?_
        refine q_iast X hH hf dX8_order_37 (fun S3 hf H locs hH => ?_)
        refine lv_iinc (v := l3 + 1) (lv' := [(3, .int (l3 + 1)), (0, .ref l0), (1, .int l1), (2, .int l2)]) hx hb dX8_order_38 hl (k := 3) rfl rfl (by decide) rfl (fun ls hl => ?_)
        refine lv_goto (tgt := 24) hx hb dX8_order_41 (by decide) ?_
        exact ih24 S3 l0 l1 l2 (l3 + 1) hf H locs ls hH (lv_sub hl [1, 2, 3, 0] rfl)
  refine lv_iconst (v := 4) hx hb dX8_order_0 (by decide) ?_
  refine lv_aload_n hx hb dX8_order_1 rfl (lv_at hl 0 rfl) ?_
  refine q_getI (T := TX8) (N := 25) X hH hf iw_X8 rfl (by decide) tw_1631 (fun _ h => h) dX8_order_2 (fun v1 hf => ?_)
  refine lv_imul hx hb dX8_order_5 ?_
  refine lv_istore_n (lv' := [(1, .int ((4 : Int32) * v1)), (0, .ref a0)]) hx hb dX8_order_6 rfl hl (by decide) rfl (fun ls hl => ?_)
  refine lv_aload_n hx hb dX8_order_7 rfl (lv_at hl 1 rfl) ?_
  refine lv_dup hx hb dX8_order_8 rfl ?_
  refine q_getI (T := TX8) (N := 25) X hH hf iw_X8 rfl (by decide) tw_1631 (fun _ h => h) dX8_order_9 (fun v2 hf => ?_)
  refine lv_iconst (v := 1) hx hb dX8_order_12 (by decide) ?_
  refine lv_iadd hx hb dX8_order_13 ?_
  refine q_putV (T := TX8) (N := 25) (ty0 := tyX8) (ty := tyX8 22) X hH hf iw_X8 tyX8_ok nmX8 rfl (by decide) tw_1631 (fun _ h => h) rfl (tyX8_ok 22 (by decide)) rfl rfl dX8_order_14 (fun S3 hf H locs hH => ?_)
  refine lv_aload_n hx hb dX8_order_17 rfl (lv_at hl 1 rfl) ?_
  obtain ⟨hb1, hb2, hf⟩ := hf
  refine q_backI0 X hH (q_runV [] [] X hH hl (c_X8_sign l D cy G X.2.2.2.1 S3 a0 _ _ hf) mf_X8_sign mv_X8_sign tw_2008 ⟨Nat.le_of_ble_eq_true rfl, Nat.le_of_ble_eq_true rfl⟩ hb1 hb2 (T := TX8) (N := 25) rfl rfl (Nat.le_of_ble_eq_true rfl) dX8_order_18 ⟨Nat.le_of_ble_eq_true rfl, Nat.le_of_ble_eq_true rfl⟩) (fun v5 S4 hf H locs hH => ?_)
  refine lv_istore_n (lv' := [(2, .int v5), (1, .int ((4 : Int32) * v1)), (0, .ref a0)]) hx hb dX8_order_21 rfl hl (by decide) rfl (fun ls hl => ?_)
  refine lv_iconst (v := 0) hx hb dX8_order_22 (by decide) ?_
  refine lv_istore_n (lv' := [(3, .int 0), (2, .int v5), (1, .int ((4 : Int32) * v1)), (0, .ref a0)]) hx hb dX8_order_23 rfl hl (by decide) rfl (fun ls hl => ?_)
  exact hL24 4096 S4 a0 ((4 : Int32) * v1) v5 0 hf H locs ls hH (lv_sub hl [3, 2, 1, 0] rfl)
