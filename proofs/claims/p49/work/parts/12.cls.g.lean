-- X7_refuses
def f_X7_refuses_J58 (post : Int32 → PS → Prop) (S : PS) (l0 : Nat) (t0 : Int32) (t1 : Nat) : Prop :=
  gR S l0 11 0 fun v1 => (
  gI S v1 10 1 fun v2 => (
  isO S t1 11 (
  f_X7_refusesIf S t1 t0 1 v2 fun v4 S3 => (
  nZ .boolean v4 (post v4 S3)))))
def f_X7_refuses_J133 (post : Int32 → PS → Prop) (S : PS) (l4 : Int32) (t0 : Int32) (t1 : Nat) : Prop :=
  isO S t1 11 (
  f_X7_refusesIf S t1 t0 5 l4 fun v2 S1 => (
  if v2 = 0 then
    nZ .boolean 0 (post 0 S1)
  else
    nZ .boolean 1 (post 1 S1)))
def f_X7_refuses_J104 (post : Int32 → PS → Prop) (S : PS) (l0 : Nat) (l2 : Int32) (l3 : Int32) (l4 : Int32) (t0 : Int32) (t1 : Nat) : Prop :=
  isO S t1 11 (
  f_X7_refusesIf S t1 t0 4 l4 fun v2 S1 => (
  if v2 = 0 then
    gR S1 l0 11 0 fun v4 => (
    isO S1 v4 10 (
    f_X6_tie S1 v4 l2 l3 fun v6 S5 => (
    if v6 = l4 then
      f_X7_refuses_J133 post S5 l4 1 l0
    else
      f_X7_refuses_J133 post S5 l4 0 l0)))
  else
    nZ .boolean 1 (post 1 S1)))
def f_X7_refuses_J99 (post : Int32 → PS → Prop) (S : PS) (l0 : Nat) (l2 : Int32) (l3 : Int32) (l4 : Int32) (t0 : Nat) : Prop :=
  f_X7_refuses_J104 post S l0 l2 l3 l4 1 t0
def f_X7_refuses_J165 (post : Int32 → PS → Prop) (S : PS) (l0 : Nat) (l2 : Int32) (l3 : Int32) (t0 : Int32) : Prop :=
  isO S l0 11 (
  f_X7_refusesPair S l0 l2 l3 fun v2 S1 => (
  if v2 = 0 then
    gR S1 l0 11 0 fun v4 => (
    isO S1 v4 10 (
    f_X6_bondCount S1 v4 fun v6 S5 => (
    isO S5 l0 11 (
    f_X7_refusesIf S5 l0 t0 6 v6 fun v8 S7 => (
    if v8 = 0 then
      nZ .boolean 0 (post 0 S7)
    else
      nZ .boolean 1 (post 1 S7))))))
  else
    nZ .boolean 1 (post 1 S1)))
def f_X7_refuses_J256 (post : Int32 → PS → Prop) (S : PS) (l3 : Int32) (t0 : Int32) (t1 : Nat) : Prop :=
  isO S t1 11 (
  f_X7_refusesIf S t1 t0 5 l3 fun v2 S1 => (
  if v2 = 0 then
    nZ .boolean 0 (post 0 S1)
  else
    nZ .boolean 1 (post 1 S1)))
def f_X7_refuses_J230 (post : Int32 → PS → Prop) (S : PS) (l0 : Nat) (l2 : Int32) (l3 : Int32) (t0 : Int32) (t1 : Nat) : Prop :=
  isO S t1 11 (
  f_X7_refusesIf S t1 t0 4 l3 fun v2 S1 => (
  if v2 = 0 then
    gR S1 l0 11 0 fun v4 => (
    isO S1 v4 10 (
    f_X6_sideOf S1 v4 l2 fun v6 S5 => (
    if v6 = l3 then
      f_X7_refuses_J256 post S5 l3 1 l0
    else
      f_X7_refuses_J256 post S5 l3 0 l0)))
  else
    nZ .boolean 1 (post 1 S1)))
def f_X7_refuses_J229 (post : Int32 → PS → Prop) (S : PS) (l0 : Nat) (l2 : Int32) (l3 : Int32) (t0 : Nat) : Prop :=
  f_X7_refuses_J230 post S l0 l2 l3 0 t0
def f_X7_refuses (S : PS) (a0 : Nat) (a1 : Int32) (a2 : Int32) (a3 : Int32) (a4 : Int32) (post : Int32 → PS → Prop) : Prop :=
  if a1 = 0 then
    gR S a0 11 0 fun v2 => (
    gI S v2 10 1 fun v3 => (
    if v3 < 9 then
      f_X7_refuses_J58 post S a0 0 a0
    else
      f_X7_refuses_J58 post S a0 1 a0))
  else
  if a1 = 1 then
    isO S a0 11 (
    f_X7_refusesHousehold S a0 a2 fun v7 S6 => (
    nZ .boolean v7 (post v7 S6)))
  else
  if a1 = 2 then
    isO S a0 11 (
    f_X7_refusesPair S a0 a2 a3 fun v10 S9 => (
    if v10 = 0 then
      if a4 < 1 then
        f_X7_refuses_J99 post S9 a0 a2 a3 a4 a0
      else
        if a4 ≤ 99 then
          f_X7_refuses_J104 post S9 a0 a2 a3 a4 0 a0
        else
          f_X7_refuses_J99 post S9 a0 a2 a3 a4 a0
    else
      nZ .boolean 1 (post 1 S9)))
  else
  if a1 = 3 then
    gR S a0 11 0 fun v15 => (
    isO S v15 10 (
    f_X6_tie S v15 a2 a3 fun v17 S16 => (
    if v17 = 0 then
      f_X7_refuses_J165 post S16 a0 a2 a3 1
    else
      f_X7_refuses_J165 post S16 a0 a2 a3 0)))
  else
  if a1 = 4 then
    isO S a0 11 (
    f_X7_refusesPair S a0 a2 a3 fun v21 S20 => (
    nZ .boolean v21 (post v21 S20)))
  else
  if a1 = 5 then
    isO S a0 11 (
    f_X7_refusesHousehold S a0 a2 fun v24 S23 => (
    if v24 = 0 then
      if a3 = 0 then
        f_X7_refuses_J229 post S23 a0 a2 a3 a0
      else
        if a3 = 1 then
          f_X7_refuses_J229 post S23 a0 a2 a3 a0
        else
          f_X7_refuses_J230 post S23 a0 a2 a3 1 a0
    else
      nZ .boolean 1 (post 1 S23)))
  else
    isO S a0 11 (
    f_X7_isTooSmall S a0 fun v29 S28 => (
    gR S28 a0 11 0 fun v30 => (
    gI S28 v30 10 1 fun v31 => (
    isO S28 a0 11 (
    f_X7_refusesIf S28 a0 v29 7 v31 fun v33 S32 => (
    nZ .boolean v33 (post v33 S32)))))))
abbrev rm_X7_refuses : Room := { frames := 4, cells := 0, slots := 0, locals := 88 }
set_option maxHeartbeats 4000000 in
set_option maxRecDepth 100000 in
theorem c_X7_refuses (l : Launch) (D : va_G) (cy : Nat → ClassId) (G : p_GT) (hG : p_ok G) (S : PS) (a0 : Nat) (a1 : Int32) (a2 : Int32) (a3 : Int32) (a4 : Int32) (post : Int32 → PS → Prop) (sz : Nat) (hf : f_X7_refuses S a0 a1 a2 a3 a4 post) : p_Mi l D cy G S sz yX7_refuses (Cond.code yX7_refuses cX7_refuses 6 (some .boolean) :: wG) rm_X7_refuses [.ref a0, .int a1, .int a2, .int a3, .int a4] 0 0 post := by
  refine q_start hG (Qc := fun A => va_Qi post (p_Post D cy A) A) mf_X7_refuses (Nat.le_of_ble_eq_true rfl) (own := RX7) rfl ?_
  intro p e s m below meth c A X hr hlk hnm ls hl hH
  have hx := X.1.1
  have hb := X.1.2.1
  replace hl : lv_has ls 6 [(0, .ref a0), (1, .int a1), (2, .int a2), (3, .int a3), (4, .int a4)] := hl
  obtain ⟨H, hHe⟩ : ∃ H, H = s.heap := ⟨_, rfl⟩
  obtain ⟨locs, hlo⟩ : ∃ locs : List Loc, locs = [] := ⟨_, rfl⟩
  rw [← hHe, ← hlo] at hH
  show W p l e rm_X7_refuses s m [.ref a0, .int a1, .int a2, .int a3, .int a4].toArray below meth c s.heap [] 0 0 _ _
  rw [← hHe, ← hlo]
  have hJ58 : ∀ (S : PS) (l0 : Nat) (t0 : Int32) (t1 : Nat), f_X7_refuses_J58 post S l0 t0 t1 → ∀ (H : Heap) (locs : List Loc) (ls : Array Slot), p_H D cy S A s H locs → lv_has ls 6 [(0, .ref l0)] → W p l e rm_X7_refuses s m [.ref a0, .int a1, .int a2, .int a3, .int a4].toArray below meth c H locs 0 0 (MQ below (va_Qi post (p_Post D cy A) A) [.ref a0, .int a1, .int a2, .int a3, .int a4].toArray s 0 0 A) (F0 m 58 ls [.int t0, .ref t1]) := by
    intro S l0 t0 t1 hf H locs ls hH hl
    refine lv_iconst (v := 1) hx hb dX7_refuses_58 (by decide) ?_
    refine lv_aload_n hx hb dX7_refuses_59 rfl (lv_at hl 0 rfl) ?_
    refine q_getR (T := TX7) (N := 12) X hH hf iw_X7 rfl (by decide) tw_253 (fun _ h => h) dX7_refuses_60 (fun v1 hf => ?_)
    refine q_getIN (T := TX6) (N := 6) X hH hf iw_X6 rfl (by decide) (List.mem_of_getElem? (i := 0) rfl) (fun _ h => h) dX7_refuses_63 (fun v2 hf => ?_)
    obtain ⟨hb1, hb2, hf⟩ := hf
    refine q_backI0 X hH (q_runV [.int t0, .int 1, .int v2] [] X hH hl (c_X7_refusesIf l D cy G X.2.2.2.1 S t1 t0 1 v2 _ _ hf) mf_X7_refusesIf mv_X7_refusesIf tw_993 ⟨Nat.le_of_ble_eq_true rfl, Nat.le_of_ble_eq_true rfl⟩ hb1 hb2 (T := TX7) (N := 12) rfl rfl (Nat.le_of_ble_eq_true rfl) dX7_refuses_66 ⟨Nat.le_of_ble_eq_true rfl, Nat.le_of_ble_eq_true rfl⟩) (fun v4 S3 hf H locs hH => ?_)
    exact q_retZ X hH hr hlk hf (Nat.zero_le _) (Nat.zero_le _) dX7_refuses_69
  have hJ104 : ∀ (S : PS) (l0 : Nat) (l2 : Int32) (l3 : Int32) (l4 : Int32) (t0 : Int32) (t1 : Nat), f_X7_refuses_J104 post S l0 l2 l3 l4 t0 t1 → ∀ (H : Heap) (locs : List Loc) (ls : Array Slot), p_H D cy S A s H locs → lv_has ls 6 [(0, .ref l0), (2, .int l2), (3, .int l3), (4, .int l4)] → W p l e rm_X7_refuses s m [.ref a0, .int a1, .int a2, .int a3, .int a4].toArray below meth c H locs 0 0 (MQ below (va_Qi post (p_Post D cy A) A) [.ref a0, .int a1, .int a2, .int a3, .int a4].toArray s 0 0 A) (F0 m 104 ls [.int t0, .ref t1]) := by
    intro S l0 l2 l3 l4 t0 t1 hf H locs ls hH hl
    have hJ133 : ∀ (S : PS) (l4 : Int32) (t0 : Int32) (t1 : Nat), f_X7_refuses_J133 post S l4 t0 t1 → ∀ (H : Heap) (locs : List Loc) (ls : Array Slot), p_H D cy S A s H locs → lv_has ls 6 [(4, .int l4)] → W p l e rm_X7_refuses s m [.ref a0, .int a1, .int a2, .int a3, .int a4].toArray below meth c H locs 0 0 (MQ below (va_Qi post (p_Post D cy A) A) [.ref a0, .int a1, .int a2, .int a3, .int a4].toArray s 0 0 A) (F0 m 133 ls [.int t0, .ref t1]) := by
      intro S l4 t0 t1 hf H locs ls hH hl
      refine lv_iconst (v := 5) hx hb dX7_refuses_133 (by decide) ?_
      refine lv_iload hx hb dX7_refuses_134 (lv_at hl 0 rfl) ?_
      obtain ⟨hb1, hb2, hf⟩ := hf
      refine q_backI0 X hH (q_runV [.int t0, .int 5, .int l4] [] X hH hl (c_X7_refusesIf l D cy G X.2.2.2.1 S t1 t0 5 l4 _ _ hf) mf_X7_refusesIf mv_X7_refusesIf tw_993 ⟨Nat.le_of_ble_eq_true rfl, Nat.le_of_ble_eq_true rfl⟩ hb1 hb2 (T := TX7) (N := 12) rfl rfl (Nat.le_of_ble_eq_true rfl) dX7_refuses_136 ⟨Nat.le_of_ble_eq_true rfl, Nat.le_of_ble_eq_true rfl⟩) (fun v2 S1 hf H locs hH => ?_)
      refine lv_if_eq (tgt := 146) hx hb dX7_refuses_139 (by decide) (fun c3 => ?_) (fun c3 => ?_)
      · have hf := (if_pos c3).mp hf
        refine lv_iconst (v := 0) hx hb dX7_refuses_146 (by decide) ?_
        exact q_retZ X hH hr hlk hf (Nat.zero_le _) (Nat.zero_le _) dX7_refuses_147
      · have hf := (if_neg c3).mp hf
        refine lv_iconst (v := 1) hx hb dX7_refuses_142 (by decide) ?_
        refine lv_goto (tgt := 147) hx hb dX7_refuses_143 (by decide) ?_
        exact q_retZ X hH hr hlk hf (Nat.zero_le _) (Nat.zero_le _) dX7_refuses_147
    refine lv_iconst (v := 4) hx hb dX7_refuses_104 (by decide) ?_
    refine lv_iload hx hb dX7_refuses_105 (lv_at hl 3 rfl) ?_
    obtain ⟨hb1, hb2, hf⟩ := hf
    refine q_backI0 X hH (q_runV [.int t0, .int 4, .int l4] [] X hH hl (c_X7_refusesIf l D cy G X.2.2.2.1 S t1 t0 4 l4 _ _ hf) mf_X7_refusesIf mv_X7_refusesIf tw_993 ⟨Nat.le_of_ble_eq_true rfl, Nat.le_of_ble_eq_true rfl⟩ hb1 hb2 (T := TX7) (N := 12) rfl rfl (Nat.le_of_ble_eq_true rfl) dX7_refuses_107 ⟨Nat.le_of_ble_eq_true rfl, Nat.le_of_ble_eq_true rfl⟩) (fun v2 S1 hf H locs hH => ?_)
    refine lv_if_ne (tgt := 142) hx hb dX7_refuses_110 (by decide) (fun c3 => ?_) (fun c3 => ?_)
    · have hf := (if_neg c3).mp hf
      refine lv_iconst (v := 1) hx hb dX7_refuses_142 (by decide) ?_
      refine lv_goto (tgt := 147) hx hb dX7_refuses_143 (by decide) ?_
      exact q_retZ X hH hr hlk hf (Nat.zero_le _) (Nat.zero_le _) dX7_refuses_147
    · have hf := (if_pos c3).mp hf
      refine lv_aload_n hx hb dX7_refuses_113 rfl (lv_at hl 0 rfl) ?_
      refine lv_aload_n hx hb dX7_refuses_114 rfl (lv_at hl 0 rfl) ?_
      refine q_getR (T := TX7) (N := 12) X hH hf iw_X7 rfl (by decide) tw_253 (fun _ h => h) dX7_refuses_115 (fun v4 hf => ?_)
      refine lv_iload_n hx hb dX7_refuses_118 rfl (lv_at hl 1 rfl) ?_
      refine lv_iload_n hx hb dX7_refuses_119 rfl (lv_at hl 2 rfl) ?_
      obtain ⟨hb1, hb2, hf⟩ := hf
      refine q_backI0 X hH (q_runV [.int l2, .int l3] [.ref l0] X hH hl (c_X6_tie l D cy G X.2.2.2.1 S1 v4 l2 l3 _ _ hf) mf_X6_tie mv_X6_tie tw_722 ⟨Nat.le_of_ble_eq_true rfl, Nat.le_of_ble_eq_true rfl⟩ hb1 hb2 (T := TX6) (N := 6) rfl rfl (Nat.le_of_ble_eq_true rfl) dX7_refuses_120 ⟨Nat.le_of_ble_eq_true rfl, Nat.le_of_ble_eq_true rfl⟩) (fun v6 S5 hf H locs hH => ?_)
      refine lv_iload hx hb dX7_refuses_123 (lv_at hl 3 rfl) ?_
      refine lv_icmp_ne (tgt := 132) hx hb dX7_refuses_125 (by decide) (fun c7 => ?_) (fun c7 => ?_)
      · have hf := (if_neg c7).mp hf
        refine lv_iconst (v := 0) hx hb dX7_refuses_132 (by decide) ?_
        exact hJ133 S5 l4 0 l0 hf H locs ls hH (lv_sub hl [3] rfl)
      · have hf := (if_pos c7).mp hf
        refine lv_iconst (v := 1) hx hb dX7_refuses_128 (by decide) ?_
        refine lv_goto (tgt := 133) hx hb dX7_refuses_129 (by decide) ?_
        exact hJ133 S5 l4 1 l0 hf H locs ls hH (lv_sub hl [3] rfl)
  have hJ99 : ∀ (S : PS) (l0 : Nat) (l2 : Int32) (l3 : Int32) (l4 : Int32) (t0 : Nat), f_X7_refuses_J99 post S l0 l2 l3 l4 t0 → ∀ (H : Heap) (locs : List Loc) (ls : Array Slot), p_H D cy S A s H locs → lv_has ls 6 [(0, .ref l0), (2, .int l2), (3, .int l3), (4, .int l4)] → W p l e rm_X7_refuses s m [.ref a0, .int a1, .int a2, .int a3, .int a4].toArray below meth c H locs 0 0 (MQ below (va_Qi post (p_Post D cy A) A) [.ref a0, .int a1, .int a2, .int a3, .int a4].toArray s 0 0 A) (F0 m 99 ls [.ref t0]) := by
    intro S l0 l2 l3 l4 t0 hf H locs ls hH hl
    refine lv_iconst (v := 1) hx hb dX7_refuses_99 (by decide) ?_
    refine lv_goto (tgt := 104) hx hb dX7_refuses_100 (by decide) ?_
    exact hJ104 S l0 l2 l3 l4 1 t0 hf H locs ls hH hl
  have hJ165 : ∀ (S : PS) (l0 : Nat) (l2 : Int32) (l3 : Int32) (t0 : Int32), f_X7_refuses_J165 post S l0 l2 l3 t0 → ∀ (H : Heap) (locs : List Loc) (ls : Array Slot), p_H D cy S A s H locs → lv_has ls 6 [(0, .ref l0), (2, .int l2), (3, .int l3)] → W p l e rm_X7_refuses s m [.ref a0, .int a1, .int a2, .int a3, .int a4].toArray below meth c H locs 0 0 (MQ below (va_Qi post (p_Post D cy A) A) [.ref a0, .int a1, .int a2, .int a3, .int a4].toArray s 0 0 A) (F0 m 165 ls [.int t0]) := by
    intro S l0 l2 l3 t0 hf H locs ls hH hl
    refine lv_istore (lv' := [(5, .int t0), (0, .ref l0), (2, .int l2), (3, .int l3)]) hx hb dX7_refuses_165 hl (by decide) rfl (fun ls hl => ?_)
    refine lv_aload_n hx hb dX7_refuses_167 rfl (lv_at hl 1 rfl) ?_
    refine lv_iload_n hx hb dX7_refuses_168 rfl (lv_at hl 2 rfl) ?_
    refine lv_iload_n hx hb dX7_refuses_169 rfl (lv_at hl 3 rfl) ?_
    obtain ⟨hb1, hb2, hf⟩ := hf
    refine q_backI0 X hH (q_runV [.int l2, .int l3] [] X hH hl (c_X7_refusesPair l D cy G X.2.2.2.1 S l0 l2 l3 _ _ hf) mf_X7_refusesPair mv_X7_refusesPair tw_1005 ⟨Nat.le_of_ble_eq_true rfl, Nat.le_of_ble_eq_true rfl⟩ hb1 hb2 (T := TX7) (N := 12) rfl rfl (Nat.le_of_ble_eq_true rfl) dX7_refuses_170 ⟨Nat.le_of_ble_eq_true rfl, Nat.le_of_ble_eq_true rfl⟩) (fun v2 S1 hf H locs hH => ?_)
    refine lv_if_ne (tgt := 194) hx hb dX7_refuses_173 (by decide) (fun c3 => ?_) (fun c3 => ?_)
    · have hf := (if_neg c3).mp hf
      refine lv_iconst (v := 1) hx hb dX7_refuses_194 (by decide) ?_
      refine lv_goto (tgt := 199) hx hb dX7_refuses_195 (by decide) ?_
      exact q_retZ X hH hr hlk hf (Nat.zero_le _) (Nat.zero_le _) dX7_refuses_199
    · have hf := (if_pos c3).mp hf
      refine lv_aload_n hx hb dX7_refuses_176 rfl (lv_at hl 1 rfl) ?_
      refine lv_iload hx hb dX7_refuses_177 (lv_at hl 0 rfl) ?_
      refine lv_bipush (v := 6) hx hb dX7_refuses_179 (by decide) ?_
      refine lv_aload_n hx hb dX7_refuses_181 rfl (lv_at hl 1 rfl) ?_
      refine q_getR (T := TX7) (N := 12) X hH hf iw_X7 rfl (by decide) tw_253 (fun _ h => h) dX7_refuses_182 (fun v4 hf => ?_)
      obtain ⟨hb1, hb2, hf⟩ := hf
      refine q_backI0 X hH (q_runV [] [.int 6, .int t0, .ref l0] X hH hl (c_X6_bondCount l D cy G X.2.2.2.1 S1 v4 _ _ hf) mf_X6_bondCount mv_X6_bondCount tw_839 ⟨Nat.le_of_ble_eq_true rfl, Nat.le_of_ble_eq_true rfl⟩ hb1 hb2 (T := TX6) (N := 6) rfl rfl (Nat.le_of_ble_eq_true rfl) dX7_refuses_185 ⟨Nat.le_of_ble_eq_true rfl, Nat.le_of_ble_eq_true rfl⟩) (fun v6 S5 hf H locs hH => ?_)
      obtain ⟨hb1, hb2, hf⟩ := hf
      refine q_backI0 X hH (q_runV [.int t0, .int 6, .int v6] [] X hH hl (c_X7_refusesIf l D cy G X.2.2.2.1 S5 l0 t0 6 v6 _ _ hf) mf_X7_refusesIf mv_X7_refusesIf tw_993 ⟨Nat.le_of_ble_eq_true rfl, Nat.le_of_ble_eq_true rfl⟩ hb1 hb2 (T := TX7) (N := 12) rfl rfl (Nat.le_of_ble_eq_true rfl) dX7_refuses_188 ⟨Nat.le_of_ble_eq_true rfl, Nat.le_of_ble_eq_true rfl⟩) (fun v8 S7 hf H locs hH => ?_)
      refine lv_if_eq (tgt := 198) hx hb dX7_refuses_191 (by decide) (fun c9 => ?_) (fun c9 => ?_)
      · have hf := (if_pos c9).mp hf
        refine lv_iconst (v := 0) hx hb dX7_refuses_198 (by decide) ?_
        exact q_retZ X hH hr hlk hf (Nat.zero_le _) (Nat.zero_le _) dX7_refuses_199
      · have hf := (if_neg c9).mp hf
        refine lv_iconst (v := 1) hx hb dX7_refuses_194 (by decide) ?_
        refine lv_goto (tgt := 199) hx hb dX7_refuses_195 (by decide) ?_
        exact q_retZ X hH hr hlk hf (Nat.zero_le _) (Nat.zero_le _) dX7_refuses_199
  have hJ230 : ∀ (S : PS) (l0 : Nat) (l2 : Int32) (l3 : Int32) (t0 : Int32) (t1 : Nat), f_X7_refuses_J230 post S l0 l2 l3 t0 t1 → ∀ (H : Heap) (locs : List Loc) (ls : Array Slot), p_H D cy S A s H locs → lv_has ls 6 [(0, .ref l0), (2, .int l2), (3, .int l3)] → W p l e rm_X7_refuses s m [.ref a0, .int a1, .int a2, .int a3, .int a4].toArray below meth c H locs 0 0 (MQ below (va_Qi post (p_Post D cy A) A) [.ref a0, .int a1, .int a2, .int a3, .int a4].toArray s 0 0 A) (F0 m 230 ls [.int t0, .ref t1]) := by
    intro S l0 l2 l3 t0 t1 hf H locs ls hH hl
    have hJ256 : ∀ (S : PS) (l3 : Int32) (t0 : Int32) (t1 : Nat), f_X7_refuses_J256 post S l3 t0 t1 → ∀ (H : Heap) (locs : List Loc) (ls : Array Slot), p_H D cy S A s H locs → lv_has ls 6 [(3, .int l3)] → W p l e rm_X7_refuses s m [.ref a0, .int a1, .int a2, .int a3, .int a4].toArray below meth c H locs 0 0 (MQ below (va_Qi post (p_Post D cy A) A) [.ref a0, .int a1, .int a2, .int a3, .int a4].toArray s 0 0 A) (F0 m 256 ls [.int t0, .ref t1]) := by
      intro S l3 t0 t1 hf H locs ls hH hl
      refine lv_iconst (v := 5) hx hb dX7_refuses_256 (by decide) ?_
      refine lv_iload_n hx hb dX7_refuses_257 rfl (lv_at hl 0 rfl) ?_
      obtain ⟨hb1, hb2, hf⟩ := hf
      refine q_backI0 X hH (q_runV [.int t0, .int 5, .int l3] [] X hH hl (c_X7_refusesIf l D cy G X.2.2.2.1 S t1 t0 5 l3 _ _ hf) mf_X7_refusesIf mv_X7_refusesIf tw_993 ⟨Nat.le_of_ble_eq_true rfl, Nat.le_of_ble_eq_true rfl⟩ hb1 hb2 (T := TX7) (N := 12) rfl rfl (Nat.le_of_ble_eq_true rfl) dX7_refuses_258 ⟨Nat.le_of_ble_eq_true rfl, Nat.le_of_ble_eq_true rfl⟩) (fun v2 S1 hf H locs hH => ?_)
      refine lv_if_eq (tgt := 268) hx hb dX7_refuses_261 (by decide) (fun c3 => ?_) (fun c3 => ?_)
      · have hf := (if_pos c3).mp hf
        refine lv_iconst (v := 0) hx hb dX7_refuses_268 (by decide) ?_
        exact q_retZ X hH hr hlk hf (Nat.zero_le _) (Nat.zero_le _) dX7_refuses_269
      · have hf := (if_neg c3).mp hf
        refine lv_iconst (v := 1) hx hb dX7_refuses_264 (by decide) ?_
        refine lv_goto (tgt := 269) hx hb dX7_refuses_265 (by decide) ?_
        exact q_retZ X hH hr hlk hf (Nat.zero_le _) (Nat.zero_le _) dX7_refuses_269
    refine lv_iconst (v := 4) hx hb dX7_refuses_230 (by decide) ?_
    refine lv_iload_n hx hb dX7_refuses_231 rfl (lv_at hl 2 rfl) ?_
    obtain ⟨hb1, hb2, hf⟩ := hf
    refine q_backI0 X hH (q_runV [.int t0, .int 4, .int l3] [] X hH hl (c_X7_refusesIf l D cy G X.2.2.2.1 S t1 t0 4 l3 _ _ hf) mf_X7_refusesIf mv_X7_refusesIf tw_993 ⟨Nat.le_of_ble_eq_true rfl, Nat.le_of_ble_eq_true rfl⟩ hb1 hb2 (T := TX7) (N := 12) rfl rfl (Nat.le_of_ble_eq_true rfl) dX7_refuses_232 ⟨Nat.le_of_ble_eq_true rfl, Nat.le_of_ble_eq_true rfl⟩) (fun v2 S1 hf H locs hH => ?_)
    refine lv_if_ne (tgt := 264) hx hb dX7_refuses_235 (by decide) (fun c3 => ?_) (fun c3 => ?_)
    · have hf := (if_neg c3).mp hf
      refine lv_iconst (v := 1) hx hb dX7_refuses_264 (by decide) ?_
      refine lv_goto (tgt := 269) hx hb dX7_refuses_265 (by decide) ?_
      exact q_retZ X hH hr hlk hf (Nat.zero_le _) (Nat.zero_le _) dX7_refuses_269
    · have hf := (if_pos c3).mp hf
      refine lv_aload_n hx hb dX7_refuses_238 rfl (lv_at hl 0 rfl) ?_
      refine lv_aload_n hx hb dX7_refuses_239 rfl (lv_at hl 0 rfl) ?_
      refine q_getR (T := TX7) (N := 12) X hH hf iw_X7 rfl (by decide) tw_253 (fun _ h => h) dX7_refuses_240 (fun v4 hf => ?_)
      refine lv_iload_n hx hb dX7_refuses_243 rfl (lv_at hl 1 rfl) ?_
      obtain ⟨hb1, hb2, hf⟩ := hf
      refine q_backI0 X hH (q_runV [.int l2] [.ref l0] X hH hl (c_X6_sideOf l D cy G X.2.2.2.1 S1 v4 l2 _ _ hf) mf_X6_sideOf mv_X6_sideOf tw_367 ⟨Nat.le_of_ble_eq_true rfl, Nat.le_of_ble_eq_true rfl⟩ hb1 hb2 (T := TX6) (N := 6) rfl rfl (Nat.le_of_ble_eq_true rfl) dX7_refuses_244 ⟨Nat.le_of_ble_eq_true rfl, Nat.le_of_ble_eq_true rfl⟩) (fun v6 S5 hf H locs hH => ?_)
      refine lv_iload_n hx hb dX7_refuses_247 rfl (lv_at hl 2 rfl) ?_
      refine lv_icmp_ne (tgt := 255) hx hb dX7_refuses_248 (by decide) (fun c7 => ?_) (fun c7 => ?_)
      · have hf := (if_neg c7).mp hf
        refine lv_iconst (v := 0) hx hb dX7_refuses_255 (by decide) ?_
        exact hJ256 S5 l3 0 l0 hf H locs ls hH (lv_sub hl [2] rfl)
      · have hf := (if_pos c7).mp hf
        refine lv_iconst (v := 1) hx hb dX7_refuses_251 (by decide) ?_
        refine lv_goto (tgt := 256) hx hb dX7_refuses_252 (by decide) ?_
        exact hJ256 S5 l3 1 l0 hf H locs ls hH (lv_sub hl [2] rfl)
  have hJ229 : ∀ (S : PS) (l0 : Nat) (l2 : Int32) (l3 : Int32) (t0 : Nat), f_X7_refuses_J229 post S l0 l2 l3 t0 → ∀ (H : Heap) (locs : List Loc) (ls : Array Slot), p_H D cy S A s H locs → lv_has ls 6 [(0, .ref l0), (2, .int l2), (3, .int l3)] → W p l e rm_X7_refuses s m [.ref a0, .int a1, .int a2, .int a3, .int a4].toArray below meth c H locs 0 0 (MQ below (va_Qi post (p_Post D cy A) A) [.ref a0, .int a1, .int a2, .int a3, .int a4].toArray s 0 0 A) (F0 m 229 ls [.ref t0]) := by
    intro S l0 l2 l3 t0 hf H locs ls hH hl
    refine lv_iconst (v := 0) hx hb dX7_refuses_229 (by decide) ?_
    exact hJ230 S l0 l2 l3 0 t0 hf H locs ls hH hl
  refine lv_iload_n hx hb dX7_refuses_0 rfl (lv_at hl 1 rfl) ?_
  by_cases c1 : a1 = 0
  · have hf := (if_pos c1).mp hf
    refine lv_tableIn (off := 39) (tgt := 40) hx hb dX7_refuses_1 (by rw [c1]; decide) (by rw [c1]; decide) (by rw [c1]; rfl) (by decide) ?_
    refine lv_aload_n hx hb dX7_refuses_40 rfl (lv_at hl 0 rfl) ?_
    refine lv_aload_n hx hb dX7_refuses_41 rfl (lv_at hl 0 rfl) ?_
    refine q_getR (T := TX7) (N := 12) X hH hf iw_X7 rfl (by decide) tw_253 (fun _ h => h) dX7_refuses_42 (fun v2 hf => ?_)
    refine q_getIN (T := TX6) (N := 6) X hH hf iw_X6 rfl (by decide) (List.mem_of_getElem? (i := 0) rfl) (fun _ h => h) dX7_refuses_45 (fun v3 hf => ?_)
    refine lv_bipush (v := 9) hx hb dX7_refuses_48 (by decide) ?_
    refine lv_icmp_lt (tgt := 57) hx hb dX7_refuses_50 (by decide) (fun c4 => ?_) (fun c4 => ?_)
    · have hf := (if_pos c4).mp hf
      refine lv_iconst (v := 0) hx hb dX7_refuses_57 (by decide) ?_
      exact hJ58 S a0 0 a0 hf H locs ls hH (lv_sub hl [0] rfl)
    · have hf := (if_neg c4).mp hf
      refine lv_iconst (v := 1) hx hb dX7_refuses_53 (by decide) ?_
      refine lv_goto (tgt := 58) hx hb dX7_refuses_54 (by decide) ?_
      exact hJ58 S a0 1 a0 hf H locs ls hH (lv_sub hl [0] rfl)
  · have hf := (if_neg c1).mp hf
    by_cases c5 : a1 = 1
    · have hf := (if_pos c5).mp hf
      refine lv_tableIn (off := 69) (tgt := 70) hx hb dX7_refuses_1 (by rw [c5]; decide) (by rw [c5]; decide) (by rw [c5]; rfl) (by decide) ?_
      refine lv_aload_n hx hb dX7_refuses_70 rfl (lv_at hl 0 rfl) ?_
      refine lv_iload_n hx hb dX7_refuses_71 rfl (lv_at hl 2 rfl) ?_
      obtain ⟨hb1, hb2, hf⟩ := hf
      refine q_backI0 X hH (q_runV [.int a2] [] X hH hl (c_X7_refusesHousehold l D cy G X.2.2.2.1 S a0 a2 _ _ hf) mf_X7_refusesHousehold mv_X7_refusesHousehold tw_1001 ⟨Nat.le_of_ble_eq_true rfl, Nat.le_of_ble_eq_true rfl⟩ hb1 hb2 (T := TX7) (N := 12) rfl rfl (Nat.le_of_ble_eq_true rfl) dX7_refuses_72 ⟨Nat.le_of_ble_eq_true rfl, Nat.le_of_ble_eq_true rfl⟩) (fun v7 S6 hf H locs hH => ?_)
      exact q_retZ X hH hr hlk hf (Nat.zero_le _) (Nat.zero_le _) dX7_refuses_75
    · have hf := (if_neg c5).mp hf
      by_cases c8 : a1 = 2
      · have hf := (if_pos c8).mp hf
        refine lv_tableIn (off := 75) (tgt := 76) hx hb dX7_refuses_1 (by rw [c8]; decide) (by rw [c8]; decide) (by rw [c8]; rfl) (by decide) ?_
        refine lv_aload_n hx hb dX7_refuses_76 rfl (lv_at hl 0 rfl) ?_
        refine lv_iload_n hx hb dX7_refuses_77 rfl (lv_at hl 2 rfl) ?_
        refine lv_iload_n hx hb dX7_refuses_78 rfl (lv_at hl 3 rfl) ?_
        obtain ⟨hb1, hb2, hf⟩ := hf
        refine q_backI0 X hH (q_runV [.int a2, .int a3] [] X hH hl (c_X7_refusesPair l D cy G X.2.2.2.1 S a0 a2 a3 _ _ hf) mf_X7_refusesPair mv_X7_refusesPair tw_1005 ⟨Nat.le_of_ble_eq_true rfl, Nat.le_of_ble_eq_true rfl⟩ hb1 hb2 (T := TX7) (N := 12) rfl rfl (Nat.le_of_ble_eq_true rfl) dX7_refuses_79 ⟨Nat.le_of_ble_eq_true rfl, Nat.le_of_ble_eq_true rfl⟩) (fun v10 S9 hf H locs hH => ?_)
        refine lv_if_ne (tgt := 142) hx hb dX7_refuses_82 (by decide) (fun c11 => ?_) (fun c11 => ?_)
        · have hf := (if_neg c11).mp hf
          refine lv_iconst (v := 1) hx hb dX7_refuses_142 (by decide) ?_
          refine lv_goto (tgt := 147) hx hb dX7_refuses_143 (by decide) ?_
          exact q_retZ X hH hr hlk hf (Nat.zero_le _) (Nat.zero_le _) dX7_refuses_147
        · have hf := (if_pos c11).mp hf
          refine lv_aload_n hx hb dX7_refuses_85 rfl (lv_at hl 0 rfl) ?_
          refine lv_iload hx hb dX7_refuses_86 (lv_at hl 4 rfl) ?_
          refine lv_iconst (v := 1) hx hb dX7_refuses_88 (by decide) ?_
          refine lv_icmp_lt (tgt := 99) hx hb dX7_refuses_89 (by decide) (fun c12 => ?_) (fun c12 => ?_)
          · have hf := (if_pos c12).mp hf
            exact hJ99 S9 a0 a2 a3 a4 a0 hf H locs ls hH (lv_sub hl [0, 2, 3, 4] rfl)
          · have hf := (if_neg c12).mp hf
            refine lv_iload hx hb dX7_refuses_92 (lv_at hl 4 rfl) ?_
            refine lv_bipush (v := 99) hx hb dX7_refuses_94 (by decide) ?_
            refine lv_icmp_le (tgt := 103) hx hb dX7_refuses_96 (by decide) (fun c13 => ?_) (fun c13 => ?_)
            · have hf := (if_pos c13).mp hf
              refine lv_iconst (v := 0) hx hb dX7_refuses_103 (by decide) ?_
              exact hJ104 S9 a0 a2 a3 a4 0 a0 hf H locs ls hH (lv_sub hl [0, 2, 3, 4] rfl)
            · have hf := (if_neg c13).mp hf
              exact hJ99 S9 a0 a2 a3 a4 a0 hf H locs ls hH (lv_sub hl [0, 2, 3, 4] rfl)
      · have hf := (if_neg c8).mp hf
        by_cases c14 : a1 = 3
        · have hf := (if_pos c14).mp hf
          refine lv_tableIn (off := 147) (tgt := 148) hx hb dX7_refuses_1 (by rw [c14]; decide) (by rw [c14]; decide) (by rw [c14]; rfl) (by decide) ?_
          refine lv_aload_n hx hb dX7_refuses_148 rfl (lv_at hl 0 rfl) ?_
          refine q_getR (T := TX7) (N := 12) X hH hf iw_X7 rfl (by decide) tw_253 (fun _ h => h) dX7_refuses_149 (fun v15 hf => ?_)
          refine lv_iload_n hx hb dX7_refuses_152 rfl (lv_at hl 2 rfl) ?_
          refine lv_iload_n hx hb dX7_refuses_153 rfl (lv_at hl 3 rfl) ?_
          obtain ⟨hb1, hb2, hf⟩ := hf
          refine q_backI0 X hH (q_runV [.int a2, .int a3] [] X hH hl (c_X6_tie l D cy G X.2.2.2.1 S v15 a2 a3 _ _ hf) mf_X6_tie mv_X6_tie tw_722 ⟨Nat.le_of_ble_eq_true rfl, Nat.le_of_ble_eq_true rfl⟩ hb1 hb2 (T := TX6) (N := 6) rfl rfl (Nat.le_of_ble_eq_true rfl) dX7_refuses_154 ⟨Nat.le_of_ble_eq_true rfl, Nat.le_of_ble_eq_true rfl⟩) (fun v17 S16 hf H locs hH => ?_)
          refine lv_if_ne (tgt := 164) hx hb dX7_refuses_157 (by decide) (fun c18 => ?_) (fun c18 => ?_)
          · have hf := (if_neg c18).mp hf
            refine lv_iconst (v := 0) hx hb dX7_refuses_164 (by decide) ?_
            exact hJ165 S16 a0 a2 a3 0 hf H locs ls hH (lv_sub hl [0, 2, 3] rfl)
          · have hf := (if_pos c18).mp hf
            refine lv_iconst (v := 1) hx hb dX7_refuses_160 (by decide) ?_
            refine lv_goto (tgt := 165) hx hb dX7_refuses_161 (by decide) ?_
            exact hJ165 S16 a0 a2 a3 1 hf H locs ls hH (lv_sub hl [0, 2, 3] rfl)
        · have hf := (if_neg c14).mp hf
          by_cases c19 : a1 = 4
          · have hf := (if_pos c19).mp hf
            refine lv_tableIn (off := 199) (tgt := 200) hx hb dX7_refuses_1 (by rw [c19]; decide) (by rw [c19]; decide) (by rw [c19]; rfl) (by decide) ?_
            refine lv_aload_n hx hb dX7_refuses_200 rfl (lv_at hl 0 rfl) ?_
            refine lv_iload_n hx hb dX7_refuses_201 rfl (lv_at hl 2 rfl) ?_
            refine lv_iload_n hx hb dX7_refuses_202 rfl (lv_at hl 3 rfl) ?_
            obtain ⟨hb1, hb2, hf⟩ := hf
            refine q_backI0 X hH (q_runV [.int a2, .int a3] [] X hH hl (c_X7_refusesPair l D cy G X.2.2.2.1 S a0 a2 a3 _ _ hf) mf_X7_refusesPair mv_X7_refusesPair tw_1005 ⟨Nat.le_of_ble_eq_true rfl, Nat.le_of_ble_eq_true rfl⟩ hb1 hb2 (T := TX7) (N := 12) rfl rfl (Nat.le_of_ble_eq_true rfl) dX7_refuses_203 ⟨Nat.le_of_ble_eq_true rfl, Nat.le_of_ble_eq_true rfl⟩) (fun v21 S20 hf H locs hH => ?_)
            exact q_retZ X hH hr hlk hf (Nat.zero_le _) (Nat.zero_le _) dX7_refuses_206
          · have hf := (if_neg c19).mp hf
            by_cases c22 : a1 = 5
            · have hf := (if_pos c22).mp hf
              refine lv_tableIn (off := 206) (tgt := 207) hx hb dX7_refuses_1 (by rw [c22]; decide) (by rw [c22]; decide) (by rw [c22]; rfl) (by decide) ?_
              refine lv_aload_n hx hb dX7_refuses_207 rfl (lv_at hl 0 rfl) ?_
              refine lv_iload_n hx hb dX7_refuses_208 rfl (lv_at hl 2 rfl) ?_
              obtain ⟨hb1, hb2, hf⟩ := hf
              refine q_backI0 X hH (q_runV [.int a2] [] X hH hl (c_X7_refusesHousehold l D cy G X.2.2.2.1 S a0 a2 _ _ hf) mf_X7_refusesHousehold mv_X7_refusesHousehold tw_1001 ⟨Nat.le_of_ble_eq_true rfl, Nat.le_of_ble_eq_true rfl⟩ hb1 hb2 (T := TX7) (N := 12) rfl rfl (Nat.le_of_ble_eq_true rfl) dX7_refuses_209 ⟨Nat.le_of_ble_eq_true rfl, Nat.le_of_ble_eq_true rfl⟩) (fun v24 S23 hf H locs hH => ?_)
              refine lv_if_ne (tgt := 264) hx hb dX7_refuses_212 (by decide) (fun c25 => ?_) (fun c25 => ?_)
              · have hf := (if_neg c25).mp hf
                refine lv_iconst (v := 1) hx hb dX7_refuses_264 (by decide) ?_
                refine lv_goto (tgt := 269) hx hb dX7_refuses_265 (by decide) ?_
                exact q_retZ X hH hr hlk hf (Nat.zero_le _) (Nat.zero_le _) dX7_refuses_269
              · have hf := (if_pos c25).mp hf
                refine lv_aload_n hx hb dX7_refuses_215 rfl (lv_at hl 0 rfl) ?_
                refine lv_iload_n hx hb dX7_refuses_216 rfl (lv_at hl 3 rfl) ?_
                refine lv_if_eq (tgt := 229) hx hb dX7_refuses_217 (by decide) (fun c26 => ?_) (fun c26 => ?_)
                · have hf := (if_pos c26).mp hf
                  exact hJ229 S23 a0 a2 a3 a0 hf H locs ls hH (lv_sub hl [0, 2, 3] rfl)
                · have hf := (if_neg c26).mp hf
                  refine lv_iload_n hx hb dX7_refuses_220 rfl (lv_at hl 3 rfl) ?_
                  refine lv_iconst (v := 1) hx hb dX7_refuses_221 (by decide) ?_
                  refine lv_icmp_eq (tgt := 229) hx hb dX7_refuses_222 (by decide) (fun c27 => ?_) (fun c27 => ?_)
                  · have hf := (if_pos c27).mp hf
                    exact hJ229 S23 a0 a2 a3 a0 hf H locs ls hH (lv_sub hl [0, 2, 3] rfl)
                  · have hf := (if_neg c27).mp hf
                    refine lv_iconst (v := 1) hx hb dX7_refuses_225 (by decide) ?_
                    refine lv_goto (tgt := 230) hx hb dX7_refuses_226 (by decide) ?_
                    exact hJ230 S23 a0 a2 a3 1 a0 hf H locs ls hH (lv_sub hl [0, 2, 3] rfl)
            · have hf := (if_neg c22).mp hf
              refine lv_tableOut (tgt := 270) hx hb dX7_refuses_1 (by have z0 := lv_neT c1 (a := 0) rfl; have z1 := lv_neT c5 (a := 1) rfl; have z2 := lv_neT c8 (a := 2) rfl; have z3 := lv_neT c14 (a := 3) rfl; have z4 := lv_neT c19 (a := 4) rfl; have z5 := lv_neT c22 (a := 5) rfl; omega) (by decide) ?_
              refine lv_aload_n hx hb dX7_refuses_270 rfl (lv_at hl 0 rfl) ?_
              refine lv_aload_n hx hb dX7_refuses_271 rfl (lv_at hl 0 rfl) ?_
              obtain ⟨hb1, hb2, hf⟩ := hf
              refine q_backI0 X hH (q_runV [] [.ref a0] X hH hl (c_X7_isTooSmall l D cy G X.2.2.2.1 S a0 _ _ hf) mf_X7_isTooSmall mv_X7_isTooSmall tw_624 ⟨Nat.le_of_ble_eq_true rfl, Nat.le_of_ble_eq_true rfl⟩ hb1 hb2 (T := TX7) (N := 12) rfl rfl (Nat.le_of_ble_eq_true rfl) dX7_refuses_272 ⟨Nat.le_of_ble_eq_true rfl, Nat.le_of_ble_eq_true rfl⟩) (fun v29 S28 hf H locs hH => ?_)
              refine lv_bipush (v := 7) hx hb dX7_refuses_275 (by decide) ?_
              refine lv_aload_n hx hb dX7_refuses_277 rfl (lv_at hl 0 rfl) ?_
              refine q_getR (T := TX7) (N := 12) X hH hf iw_X7 rfl (by decide) tw_253 (fun _ h => h) dX7_refuses_278 (fun v30 hf => ?_)
              refine q_getIN (T := TX6) (N := 6) X hH hf iw_X6 rfl (by decide) (List.mem_of_getElem? (i := 0) rfl) (fun _ h => h) dX7_refuses_281 (fun v31 hf => ?_)
              obtain ⟨hb1, hb2, hf⟩ := hf
              refine q_backI0 X hH (q_runV [.int v29, .int 7, .int v31] [] X hH hl (c_X7_refusesIf l D cy G X.2.2.2.1 S28 a0 v29 7 v31 _ _ hf) mf_X7_refusesIf mv_X7_refusesIf tw_993 ⟨Nat.le_of_ble_eq_true rfl, Nat.le_of_ble_eq_true rfl⟩ hb1 hb2 (T := TX7) (N := 12) rfl rfl (Nat.le_of_ble_eq_true rfl) dX7_refuses_284 ⟨Nat.le_of_ble_eq_true rfl, Nat.le_of_ble_eq_true rfl⟩) (fun v33 S32 hf H locs hH => ?_)
              exact q_retZ X hH hr hlk hf (Nat.zero_le _) (Nat.zero_le _) dX7_refuses_287
-- X7_done
def f_X7_done (S : PS) (a0 : Nat) (a1 : Int32) (a2 : Int32) (a3 : Int32) (a4 : Int32) (post : Int32 → PS → Prop) : Prop :=
  if a1 = 0 then
    gR S a0 11 0 fun v2 => (
    isO S v2 10 (
    f_X6_welcome S v2 fun v4 S3 => (
    post v4 S3)))
  else
  if a1 = 1 then
    gR S a0 11 0 fun v6 => (
    isO S v6 10 (
    f_X6_dismiss S v6 a2 fun v8 S7 => (
    post v8 S7)))
  else
  if a1 = 2 then
    gR S a0 11 0 fun v10 => (
    isO S v10 10 (
    f_X6_retie S v10 a2 a3 a4 fun v12 S11 => (
    post v12 S11)))
  else
  if a1 = 3 then
    gR S a0 11 0 fun v14 => (
    isO S v14 10 (
    f_X6_retie S v14 a2 a3 0 fun v16 S15 => (
    post v16 S15)))
  else
  if a1 = 4 then
    gR S a0 11 0 fun v18 => (
    isO S v18 10 (
    f_X6_unite S v18 a2 a3 fun v20 S19 => (
    post v20 S19)))
  else
  if a1 = 5 then
    gR S a0 11 0 fun v22 => (
    isO S v22 10 (
    f_X6_moveTo S v22 a2 a3 fun S23 => (
    gR S23 a0 11 0 fun v25 => (
    isO S23 v25 10 (
    f_X6_feudByBonds S23 v25 fun v27 S26 => (
    post v27 S26))))))
  else
    gR S a0 11 4 fun v28 => (
    gR S a0 11 0 fun v29 => (
    isO S v28 7 (
    f_X3_measure S v28 v29 fun S30 => (
    gR S30 a0 11 0 fun v32 => (
    gR S30 a0 11 4 fun v33 => (
    isO S30 v33 7 (
    f_X3_leastGroup S30 v33 fun v35 S34 => (
    pV S34 v32 10 2 (.int v35) fun S36 => (
    gR S36 a0 11 0 fun v37 => (
    isO S36 v37 10 (
    f_X6_feudByBonds S36 v37 fun v39 S38 => (
    post v39 S38))))))))))))
abbrev rm_X7_done : Room := { frames := 5, cells := 0, slots := 0, locals := 108 }
set_option maxHeartbeats 4000000 in
set_option maxRecDepth 100000 in
theorem c_X7_done (l : Launch) (D : va_G) (cy : Nat → ClassId) (G : p_GT) (hG : p_ok G) (S : PS) (a0 : Nat) (a1 : Int32) (a2 : Int32) (a3 : Int32) (a4 : Int32) (post : Int32 → PS → Prop) (sz : Nat) (hf : f_X7_done S a0 a1 a2 a3 a4 post) : p_Mi l D cy G S sz yX7_done (Cond.code yX7_done cX7_done 5 (some .int) :: wG) rm_X7_done [.ref a0, .int a1, .int a2, .int a3, .int a4] 0 0 post := by
  refine q_start hG (Qc := fun A => va_Qi post (p_Post D cy A) A) mf_X7_done (Nat.le_of_ble_eq_true rfl) (own := RX7) rfl ?_
  intro p e s m below meth c A X hr hlk hnm ls hl hH
  have hx := X.1.1
  have hb := X.1.2.1
  replace hl : lv_has ls 5 [(0, .ref a0), (1, .int a1), (2, .int a2), (3, .int a3), (4, .int a4)] := hl
  obtain ⟨H, hHe⟩ : ∃ H, H = s.heap := ⟨_, rfl⟩
  obtain ⟨locs, hlo⟩ : ∃ locs : List Loc, locs = [] := ⟨_, rfl⟩
  rw [← hHe, ← hlo] at hH
  show W p l e rm_X7_done s m [.ref a0, .int a1, .int a2, .int a3, .int a4].toArray below meth c s.heap [] 0 0 _ _
  rw [← hHe, ← hlo]
  refine lv_iload_n hx hb dX7_done_0 rfl (lv_at hl 1 rfl) ?_
  by_cases c1 : a1 = 0
  · have hf := (if_pos c1).mp hf
    refine lv_tableIn (off := 39) (tgt := 40) hx hb dX7_done_1 (by rw [c1]; decide) (by rw [c1]; decide) (by rw [c1]; rfl) (by decide) ?_
    refine lv_aload_n hx hb dX7_done_40 rfl (lv_at hl 0 rfl) ?_
    refine q_getR (T := TX7) (N := 12) X hH hf iw_X7 rfl (by decide) tw_253 (fun _ h => h) dX7_done_41 (fun v2 hf => ?_)
    obtain ⟨hb1, hb2, hf⟩ := hf
    refine q_backI0 X hH (q_runV [] [] X hH hl (c_X6_welcome l D cy G X.2.2.2.1 S v2 _ _ hf) mf_X6_welcome mv_X6_welcome tw_1044 ⟨Nat.le_of_ble_eq_true rfl, Nat.le_of_ble_eq_true rfl⟩ hb1 hb2 (T := TX6) (N := 6) rfl rfl (Nat.le_of_ble_eq_true rfl) dX7_done_44 ⟨Nat.le_of_ble_eq_true rfl, Nat.le_of_ble_eq_true rfl⟩) (fun v4 S3 hf H locs hH => ?_)
    exact q_retI X hH hr hlk hf (Nat.zero_le _) (Nat.zero_le _) dX7_done_47
  · have hf := (if_neg c1).mp hf
    by_cases c5 : a1 = 1
    · have hf := (if_pos c5).mp hf
      refine lv_tableIn (off := 47) (tgt := 48) hx hb dX7_done_1 (by rw [c5]; decide) (by rw [c5]; decide) (by rw [c5]; rfl) (by decide) ?_
      refine lv_aload_n hx hb dX7_done_48 rfl (lv_at hl 0 rfl) ?_
      refine q_getR (T := TX7) (N := 12) X hH hf iw_X7 rfl (by decide) tw_253 (fun _ h => h) dX7_done_49 (fun v6 hf => ?_)
      refine lv_iload_n hx hb dX7_done_52 rfl (lv_at hl 2 rfl) ?_
      obtain ⟨hb1, hb2, hf⟩ := hf
      refine q_backI0 X hH (q_runV [.int a2] [] X hH hl (c_X6_dismiss l D cy G X.2.2.2.1 S v6 a2 _ _ hf) mf_X6_dismiss mv_X6_dismiss tw_1048 ⟨Nat.le_of_ble_eq_true rfl, Nat.le_of_ble_eq_true rfl⟩ hb1 hb2 (T := TX6) (N := 6) rfl rfl (Nat.le_of_ble_eq_true rfl) dX7_done_53 ⟨Nat.le_of_ble_eq_true rfl, Nat.le_of_ble_eq_true rfl⟩) (fun v8 S7 hf H locs hH => ?_)
      exact q_retI X hH hr hlk hf (Nat.zero_le _) (Nat.zero_le _) dX7_done_56
    · have hf := (if_neg c5).mp hf
      by_cases c9 : a1 = 2
      · have hf := (if_pos c9).mp hf
        refine lv_tableIn (off := 56) (tgt := 57) hx hb dX7_done_1 (by rw [c9]; decide) (by rw [c9]; decide) (by rw [c9]; rfl) (by decide) ?_
        refine lv_aload_n hx hb dX7_done_57 rfl (lv_at hl 0 rfl) ?_
        refine q_getR (T := TX7) (N := 12) X hH hf iw_X7 rfl (by decide) tw_253 (fun _ h => h) dX7_done_58 (fun v10 hf => ?_)
        refine lv_iload_n hx hb dX7_done_61 rfl (lv_at hl 2 rfl) ?_
        refine lv_iload_n hx hb dX7_done_62 rfl (lv_at hl 3 rfl) ?_
        refine lv_iload hx hb dX7_done_63 (lv_at hl 4 rfl) ?_
        obtain ⟨hb1, hb2, hf⟩ := hf
        refine q_backI0 X hH (q_runV [.int a2, .int a3, .int a4] [] X hH hl (c_X6_retie l D cy G X.2.2.2.1 S v10 a2 a3 a4 _ _ hf) mf_X6_retie mv_X6_retie tw_1056 ⟨Nat.le_of_ble_eq_true rfl, Nat.le_of_ble_eq_true rfl⟩ hb1 hb2 (T := TX6) (N := 6) rfl rfl (Nat.le_of_ble_eq_true rfl) dX7_done_65 ⟨Nat.le_of_ble_eq_true rfl, Nat.le_of_ble_eq_true rfl⟩) (fun v12 S11 hf H locs hH => ?_)
        exact q_retI X hH hr hlk hf (Nat.zero_le _) (Nat.zero_le _) dX7_done_68
      · have hf := (if_neg c9).mp hf
        by_cases c13 : a1 = 3
        · have hf := (if_pos c13).mp hf
          refine lv_tableIn (off := 68) (tgt := 69) hx hb dX7_done_1 (by rw [c13]; decide) (by rw [c13]; decide) (by rw [c13]; rfl) (by decide) ?_
          refine lv_aload_n hx hb dX7_done_69 rfl (lv_at hl 0 rfl) ?_
          refine q_getR (T := TX7) (N := 12) X hH hf iw_X7 rfl (by decide) tw_253 (fun _ h => h) dX7_done_70 (fun v14 hf => ?_)
          refine lv_iload_n hx hb dX7_done_73 rfl (lv_at hl 2 rfl) ?_
          refine lv_iload_n hx hb dX7_done_74 rfl (lv_at hl 3 rfl) ?_
          refine lv_iconst (v := 0) hx hb dX7_done_75 (by decide) ?_
          obtain ⟨hb1, hb2, hf⟩ := hf
          refine q_backI0 X hH (q_runV [.int a2, .int a3, .int 0] [] X hH hl (c_X6_retie l D cy G X.2.2.2.1 S v14 a2 a3 0 _ _ hf) mf_X6_retie mv_X6_retie tw_1056 ⟨Nat.le_of_ble_eq_true rfl, Nat.le_of_ble_eq_true rfl⟩ hb1 hb2 (T := TX6) (N := 6) rfl rfl (Nat.le_of_ble_eq_true rfl) dX7_done_76 ⟨Nat.le_of_ble_eq_true rfl, Nat.le_of_ble_eq_true rfl⟩) (fun v16 S15 hf H locs hH => ?_)
          exact q_retI X hH hr hlk hf (Nat.zero_le _) (Nat.zero_le _) dX7_done_79
        · have hf := (if_neg c13).mp hf
          by_cases c17 : a1 = 4
          · have hf := (if_pos c17).mp hf
            refine lv_tableIn (off := 79) (tgt := 80) hx hb dX7_done_1 (by rw [c17]; decide) (by rw [c17]; decide) (by rw [c17]; rfl) (by decide) ?_
            refine lv_aload_n hx hb dX7_done_80 rfl (lv_at hl 0 rfl) ?_
            refine q_getR (T := TX7) (N := 12) X hH hf iw_X7 rfl (by decide) tw_253 (fun _ h => h) dX7_done_81 (fun v18 hf => ?_)
            refine lv_iload_n hx hb dX7_done_84 rfl (lv_at hl 2 rfl) ?_
            refine lv_iload_n hx hb dX7_done_85 rfl (lv_at hl 3 rfl) ?_
            obtain ⟨hb1, hb2, hf⟩ := hf
            refine q_backI0 X hH (q_runV [.int a2, .int a3] [] X hH hl (c_X6_unite l D cy G X.2.2.2.1 S v18 a2 a3 _ _ hf) mf_X6_unite mv_X6_unite tw_1060 ⟨Nat.le_of_ble_eq_true rfl, Nat.le_of_ble_eq_true rfl⟩ hb1 hb2 (T := TX6) (N := 6) rfl rfl (Nat.le_of_ble_eq_true rfl) dX7_done_86 ⟨Nat.le_of_ble_eq_true rfl, Nat.le_of_ble_eq_true rfl⟩) (fun v20 S19 hf H locs hH => ?_)
            exact q_retI X hH hr hlk hf (Nat.zero_le _) (Nat.zero_le _) dX7_done_89
          · have hf := (if_neg c17).mp hf
            by_cases c21 : a1 = 5
            · have hf := (if_pos c21).mp hf
              refine lv_tableIn (off := 89) (tgt := 90) hx hb dX7_done_1 (by rw [c21]; decide) (by rw [c21]; decide) (by rw [c21]; rfl) (by decide) ?_
              refine lv_aload_n hx hb dX7_done_90 rfl (lv_at hl 0 rfl) ?_
              refine q_getR (T := TX7) (N := 12) X hH hf iw_X7 rfl (by decide) tw_253 (fun _ h => h) dX7_done_91 (fun v22 hf => ?_)
              refine lv_iload_n hx hb dX7_done_94 rfl (lv_at hl 2 rfl) ?_
              refine lv_iload_n hx hb dX7_done_95 rfl (lv_at hl 3 rfl) ?_
              obtain ⟨hb1, hb2, hf⟩ := hf
              refine q_backV0 X hH (q_runV [.int a2, .int a3] [] X hH hl (c_X6_moveTo l D cy G X.2.2.2.1 S v22 a2 a3 _ _ hf) mf_X6_moveTo mv_X6_moveTo tw_1065 ⟨Nat.le_of_ble_eq_true rfl, Nat.le_of_ble_eq_true rfl⟩ hb1 hb2 (T := TX6) (N := 6) rfl rfl (Nat.le_of_ble_eq_true rfl) dX7_done_96 ⟨Nat.le_of_ble_eq_true rfl, Nat.le_of_ble_eq_true rfl⟩) (fun S23 hf H locs hH => ?_)
              refine lv_aload_n hx hb dX7_done_99 rfl (lv_at hl 0 rfl) ?_
              refine q_getR (T := TX7) (N := 12) X hH hf iw_X7 rfl (by decide) tw_253 (fun _ h => h) dX7_done_100 (fun v25 hf => ?_)
              obtain ⟨hb1, hb2, hf⟩ := hf
              refine q_backI0 X hH (q_runV [] [] X hH hl (c_X6_feudByBonds l D cy G X.2.2.2.1 S23 v25 _ _ hf) mf_X6_feudByBonds mv_X6_feudByBonds tw_426 ⟨Nat.le_of_ble_eq_true rfl, Nat.le_of_ble_eq_true rfl⟩ hb1 hb2 (T := TX6) (N := 6) rfl rfl (Nat.le_of_ble_eq_true rfl) dX7_done_103 ⟨Nat.le_of_ble_eq_true rfl, Nat.le_of_ble_eq_true rfl⟩) (fun v27 S26 hf H locs hH => ?_)
              exact q_retI X hH hr hlk hf (Nat.zero_le _) (Nat.zero_le _) dX7_done_106
            · have hf := (if_neg c21).mp hf
              refine lv_tableOut (tgt := 107) hx hb dX7_done_1 (by have z0 := lv_neT c1 (a := 0) rfl; have z1 := lv_neT c5 (a := 1) rfl; have z2 := lv_neT c9 (a := 2) rfl; have z3 := lv_neT c13 (a := 3) rfl; have z4 := lv_neT c17 (a := 4) rfl; have z5 := lv_neT c21 (a := 5) rfl; omega) (by decide) ?_
              refine lv_aload_n hx hb dX7_done_107 rfl (lv_at hl 0 rfl) ?_
              refine q_getR (T := TX7) (N := 12) X hH hf iw_X7 rfl (by decide) tw_257 (fun _ h => h) dX7_done_108 (fun v28 hf => ?_)
              refine lv_aload_n hx hb dX7_done_111 rfl (lv_at hl 0 rfl) ?_
              refine q_getR (T := TX7) (N := 12) X hH hf iw_X7 rfl (by decide) tw_253 (fun _ h => h) dX7_done_112 (fun v29 hf => ?_)
              obtain ⟨hb1, hb2, hf⟩ := hf
              refine q_backV0 X hH (q_runV [.ref v29] [] X hH hl (c_X3_measure l D cy G X.2.2.2.1 S v28 v29 _ _ hf) mf_X3_measure mv_X3_measure tw_457 ⟨Nat.le_of_ble_eq_true rfl, Nat.le_of_ble_eq_true rfl⟩ hb1 hb2 (T := TX3) (N := 6) rfl rfl (Nat.le_of_ble_eq_true rfl) dX7_done_115 ⟨Nat.le_of_ble_eq_true rfl, Nat.le_of_ble_eq_true rfl⟩) (fun S30 hf H locs hH => ?_)
              refine lv_aload_n hx hb dX7_done_118 rfl (lv_at hl 0 rfl) ?_
              refine q_getR (T := TX7) (N := 12) X hH hf iw_X7 rfl (by decide) tw_253 (fun _ h => h) dX7_done_119 (fun v32 hf => ?_)
              refine lv_aload_n hx hb dX7_done_122 rfl (lv_at hl 0 rfl) ?_
              refine q_getR (T := TX7) (N := 12) X hH hf iw_X7 rfl (by decide) tw_257 (fun _ h => h) dX7_done_123 (fun v33 hf => ?_)
              obtain ⟨hb1, hb2, hf⟩ := hf
              refine q_backI0 X hH (q_runV [] [.ref v32] X hH hl (c_X3_leastGroup l D cy G X.2.2.2.1 S30 v33 _ _ hf) mf_X3_leastGroup mv_X3_leastGroup tw_1069 ⟨Nat.le_of_ble_eq_true rfl, Nat.le_of_ble_eq_true rfl⟩ hb1 hb2 (T := TX3) (N := 6) rfl rfl (Nat.le_of_ble_eq_true rfl) dX7_done_126 ⟨Nat.le_of_ble_eq_true rfl, Nat.le_of_ble_eq_true rfl⟩) (fun v35 S34 hf H locs hH => ?_)
              refine q_putN (T := TX6) (N := 6) (ty0 := tyX6) (ty := tyX6 2) X hH hf iw_X6 tyX6_ok nmX6 rfl (by decide) (List.mem_of_getElem? (i := 1) rfl) (fun _ h => h) rfl (tyX6_ok 2 (by decide)) rfl rfl dX7_done_129 (fun S36 hf H locs hH => ?_)
              refine lv_aload_n hx hb dX7_done_132 rfl (lv_at hl 0 rfl) ?_
              refine q_getR (T := TX7) (N := 12) X hH hf iw_X7 rfl (by decide) tw_253 (fun _ h => h) dX7_done_133 (fun v37 hf => ?_)
              obtain ⟨hb1, hb2, hf⟩ := hf
              refine q_backI0 X hH (q_runV [] [] X hH hl (c_X6_feudByBonds l D cy G X.2.2.2.1 S36 v37 _ _ hf) mf_X6_feudByBonds mv_X6_feudByBonds tw_426 ⟨Nat.le_of_ble_eq_true rfl, Nat.le_of_ble_eq_true rfl⟩ hb1 hb2 (T := TX6) (N := 6) rfl rfl (Nat.le_of_ble_eq_true rfl) dX7_done_136 ⟨Nat.le_of_ble_eq_true rfl, Nat.le_of_ble_eq_true rfl⟩) (fun v39 S38 hf H locs hH => ?_)
              exact q_retI X hH hr hlk hf (Nat.zero_le _) (Nat.zero_le _) dX7_done_139
-- X7_leastByPhases
def f_X7_leastByPhases (S : PS) (a0 : Nat) (a1 : Nat) (post : Int32 → PS → Prop) : Prop :=
  gR S a0 11 4 fun v1 => (
  isO S v1 7 (
  f_X3_measure S v1 a1 fun S2 => (
  gR S2 a0 11 4 fun v4 => (
  gR S2 a0 11 4 fun v5 => (
  isO S2 v5 7 (
  f_X3_leastPhase S2 v5 fun v7 S6 => (
  isO S6 v4 7 (
  f_X3_cutOf S6 v4 v7 fun v9 S8 => (
  post v9 S8)))))))))
abbrev rm_X7_leastByPhases : Room := { frames := 4, cells := 0, slots := 0, locals := 94 }
set_option maxHeartbeats 4000000 in
set_option maxRecDepth 100000 in
theorem c_X7_leastByPhases (l : Launch) (D : va_G) (cy : Nat → ClassId) (G : p_GT) (hG : p_ok G) (S : PS) (a0 : Nat) (a1 : Nat) (post : Int32 → PS → Prop) (sz : Nat) (hf : f_X7_leastByPhases S a0 a1 post) : p_Mi l D cy G S sz yX7_leastByPhases (Cond.code yX7_leastByPhases cX7_leastByPhases 2 (some .int) :: wG) rm_X7_leastByPhases [.ref a0, .ref a1] 0 0 post := by
  refine q_start hG (Qc := fun A => va_Qi post (p_Post D cy A) A) mf_X7_leastByPhases (Nat.le_of_ble_eq_true rfl) (own := RX7) rfl ?_
  intro p e s m below meth c A X hr hlk hnm ls hl hH
  have hx := X.1.1
  have hb := X.1.2.1
  replace hl : lv_has ls 2 [(0, .ref a0), (1, .ref a1)] := hl
  obtain ⟨H, hHe⟩ : ∃ H, H = s.heap := ⟨_, rfl⟩
  obtain ⟨locs, hlo⟩ : ∃ locs : List Loc, locs = [] := ⟨_, rfl⟩
  rw [← hHe, ← hlo] at hH
  show W p l e rm_X7_leastByPhases s m [.ref a0, .ref a1].toArray below meth c s.heap [] 0 0 _ _
  rw [← hHe, ← hlo]
  refine lv_aload_n hx hb dX7_leastByPhases_0 rfl (lv_at hl 0 rfl) ?_
  refine q_getR (T := TX7) (N := 12) X hH hf iw_X7 rfl (by decide) tw_257 (fun _ h => h) dX7_leastByPhases_1 (fun v1 hf => ?_)
  refine lv_aload_n hx hb dX7_leastByPhases_4 rfl (lv_at hl 1 rfl) ?_
  obtain ⟨hb1, hb2, hf⟩ := hf
  refine q_backV0 X hH (q_runV [.ref a1] [] X hH hl (c_X3_measure l D cy G X.2.2.2.1 S v1 a1 _ _ hf) mf_X3_measure mv_X3_measure tw_457 ⟨Nat.le_of_ble_eq_true rfl, Nat.le_of_ble_eq_true rfl⟩ hb1 hb2 (T := TX3) (N := 6) rfl rfl (Nat.le_of_ble_eq_true rfl) dX7_leastByPhases_5 ⟨Nat.le_of_ble_eq_true rfl, Nat.le_of_ble_eq_true rfl⟩) (fun S2 hf H locs hH => ?_)
  refine lv_aload_n hx hb dX7_leastByPhases_8 rfl (lv_at hl 0 rfl) ?_
  refine q_getR (T := TX7) (N := 12) X hH hf iw_X7 rfl (by decide) tw_257 (fun _ h => h) dX7_leastByPhases_9 (fun v4 hf => ?_)
  refine lv_aload_n hx hb dX7_leastByPhases_12 rfl (lv_at hl 0 rfl) ?_
  refine q_getR (T := TX7) (N := 12) X hH hf iw_X7 rfl (by decide) tw_257 (fun _ h => h) dX7_leastByPhases_13 (fun v5 hf => ?_)
  obtain ⟨hb1, hb2, hf⟩ := hf
  refine q_backI0 X hH (q_runV [] [.ref v4] X hH hl (c_X3_leastPhase l D cy G X.2.2.2.1 S2 v5 _ _ hf) mf_X3_leastPhase mv_X3_leastPhase tw_653 ⟨Nat.le_of_ble_eq_true rfl, Nat.le_of_ble_eq_true rfl⟩ hb1 hb2 (T := TX3) (N := 6) rfl rfl (Nat.le_of_ble_eq_true rfl) dX7_leastByPhases_16 ⟨Nat.le_of_ble_eq_true rfl, Nat.le_of_ble_eq_true rfl⟩) (fun v7 S6 hf H locs hH => ?_)
  obtain ⟨hb1, hb2, hf⟩ := hf
  refine q_backI0 X hH (q_runV [.int v7] [] X hH hl (c_X3_cutOf l D cy G X.2.2.2.1 S6 v4 v7 _ _ hf) mf_X3_cutOf mv_X3_cutOf tw_502 ⟨Nat.le_of_ble_eq_true rfl, Nat.le_of_ble_eq_true rfl⟩ hb1 hb2 (T := TX3) (N := 6) rfl rfl (Nat.le_of_ble_eq_true rfl) dX7_leastByPhases_19 ⟨Nat.le_of_ble_eq_true rfl, Nat.le_of_ble_eq_true rfl⟩) (fun v9 S8 hf H locs hH => ?_)
  exact q_retI X hH hr hlk hf (Nat.zero_le _) (Nat.zero_le _) dX7_leastByPhases_22
-- X7_isLeastTold
def f_X7_isLeastTold_J104 (post : Int32 → PS → Prop) (g35 : PS → Nat → Int32 → Int32 → Prop) (S : PS) (l0 : Nat) (l1 : Int32) (l2 : Int32) : Prop :=
  g35 S l0 l1 (l2 + 1)
def f_X7_isLeastTold_L50 (post : Int32 → PS → Prop) (g35 : PS → Nat → Int32 → Int32 → Prop) : Nat → PS → Nat → Int32 → Int32 → Int32 → Prop
  | 0, _, _, _, _, _ => False
  | n + 1, S, l0, l1, l2, l3 =>
  gR S l0 11 0 fun v1 => (
  gI S v1 10 1 fun v2 => (
  if v2 ≤ l3 then
    f_X7_isLeastTold_J104 post g35 S l0 l1 l2
  else
    gR S l0 11 5 fun v4 => (
    isO S v4 4 (
    f_X0_leastApart S v4 l2 l3 fun v6 S5 => (
    gR S5 l0 11 6 fun v7 => (
    gR S5 l0 11 0 fun v8 => (
    isO S5 v7 5 (
    f_X1_mostFlow S5 v7 v8 l2 l3 fun v10 S9 => (
    if v6 = v10 then
      if l1 ≤ v6 then
        (f_X7_isLeastTold_L50 post g35 n) S9 l0 l1 l2 (l3 + 1)
      else
        nZ .boolean 0 (post 0 S9)
    else
      nZ .boolean 0 (post 0 S9))))))))))
def f_X7_isLeastTold_L35 (post : Int32 → PS → Prop) : Nat → PS → Nat → Int32 → Int32 → Prop
  | 0, _, _, _, _ => False
  | n + 1, S, l0, l1, l2 =>
  gR S l0 11 0 fun v1 => (
  gI S v1 10 1 fun v2 => (
  if v2 ≤ l2 then
    nZ .boolean 1 (post 1 S)
  else
    f_X7_isLeastTold_L50 post (f_X7_isLeastTold_L35 post n) 4096 S l0 l1 l2 (l2 + 1)))
def f_X7_isLeastTold (S : PS) (a0 : Nat) (post : Int32 → PS → Prop) : Prop :=
  gR S a0 11 0 fun v1 => (
  isO S a0 11 (
  f_X7_leastByPhases S a0 v1 fun v3 S2 => (
  gR S2 a0 11 5 fun v4 => (
  gR S2 a0 11 0 fun v5 => (
  isO S2 v4 4 (
  f_X0_measure S2 v4 v5 fun S6 => (
  gR S6 a0 11 5 fun v8 => (
  isO S6 v8 4 (
  f_X0_leastFeud S6 v8 fun v10 S9 => (
  if v3 = v10 then
    f_X7_isLeastTold_L35 post 4096 S9 a0 v3 0
  else
    nZ .boolean 0 (post 0 S9)))))))))))
abbrev rm_X7_isLeastTold : Room := { frames := 5, cells := 0, slots := 0, locals := 115 }
set_option maxHeartbeats 4000000 in
set_option maxRecDepth 100000 in
theorem c_X7_isLeastTold (l : Launch) (D : va_G) (cy : Nat → ClassId) (G : p_GT) (hG : p_ok G) (S : PS) (a0 : Nat) (post : Int32 → PS → Prop) (sz : Nat) (hf : f_X7_isLeastTold S a0 post) : p_Mi l D cy G S sz yX7_isLeastTold (Cond.code yX7_isLeastTold cX7_isLeastTold 5 (some .boolean) :: wG) rm_X7_isLeastTold [.ref a0] 0 0 post := by
  refine q_start hG (Qc := fun A => va_Qi post (p_Post D cy A) A) mf_X7_isLeastTold (Nat.le_of_ble_eq_true rfl) (own := RX7) rfl ?_
  intro p e s m below meth c A X hr hlk hnm ls hl hH
  have hx := X.1.1
  have hb := X.1.2.1
  replace hl : lv_has ls 5 [(0, .ref a0)] := hl
  obtain ⟨H, hHe⟩ : ∃ H, H = s.heap := ⟨_, rfl⟩
  obtain ⟨locs, hlo⟩ : ∃ locs : List Loc, locs = [] := ⟨_, rfl⟩
  rw [← hHe, ← hlo] at hH
  show W p l e rm_X7_isLeastTold s m [.ref a0].toArray below meth c s.heap [] 0 0 _ _
  rw [← hHe, ← hlo]
  have hL35 : ∀ (n35 : Nat) (S : PS) (l0 : Nat) (l1 : Int32) (l2 : Int32), f_X7_isLeastTold_L35 post n35 S l0 l1 l2 → ∀ (H : Heap) (locs : List Loc) (ls : Array Slot), p_H D cy S A s H locs → lv_has ls 5 [(0, .ref l0), (1, .int l1), (2, .int l2)] → W p l e rm_X7_isLeastTold s m [.ref a0].toArray below meth c H locs 0 0 (MQ below (va_Qi post (p_Post D cy A) A) [.ref a0].toArray s 0 0 A) (F0 m 35 ls []) := by
    intro n35
    induction n35 with
    | zero => intro S l0 l1 l2 hf; exact hf.elim
    | succ n35 ih35 =>
      intro S l0 l1 l2 hf H locs ls hH hl
      have hL50 : ∀ (n50 : Nat) (S : PS) (l0 : Nat) (l1 : Int32) (l2 : Int32) (l3 : Int32), f_X7_isLeastTold_L50 post (f_X7_isLeastTold_L35 post n35) n50 S l0 l1 l2 l3 → ∀ (H : Heap) (locs : List Loc) (ls : Array Slot), p_H D cy S A s H locs → lv_has ls 5 [(0, .ref l0), (1, .int l1), (2, .int l2), (3, .int l3)] → W p l e rm_X7_isLeastTold s m [.ref a0].toArray below meth c H locs 0 0 (MQ below (va_Qi post (p_Post D cy A) A) [.ref a0].toArray s 0 0 A) (F0 m 50 ls []) := by
        intro n50
        induction n50 with
        | zero => intro S l0 l1 l2 l3 hf; exact hf.elim
        | succ n50 ih50 =>
          intro S l0 l1 l2 l3 hf H locs ls hH hl
          have hJ104 : ∀ (S : PS) (l0 : Nat) (l1 : Int32) (l2 : Int32), f_X7_isLeastTold_J104 post (f_X7_isLeastTold_L35 post n35) S l0 l1 l2 → ∀ (H : Heap) (locs : List Loc) (ls : Array Slot), p_H D cy S A s H locs → lv_has ls 5 [(0, .ref l0), (1, .int l1), (2, .int l2)] → W p l e rm_X7_isLeastTold s m [.ref a0].toArray below meth c H locs 0 0 (MQ below (va_Qi post (p_Post D cy A) A) [.ref a0].toArray s 0 0 A) (F0 m 104 ls []) := by
            intro S l0 l1 l2 hf H locs ls hH hl
            refine lv_iinc (v := l2 + 1) (lv' := [(2, .int (l2 + 1)), (0, .ref l0), (1, .int l1)]) hx hb dX7_isLeastTold_104 hl (k := 2) rfl rfl (by decide) rfl (fun ls hl => ?_)
            refine lv_goto (tgt := 35) hx hb dX7_isLeastTold_107 (by decide) ?_
            exact ih35 S l0 l1 (l2 + 1) hf H locs ls hH (lv_sub hl [1, 2, 0] rfl)
          refine lv_iload_n hx hb dX7_isLeastTold_50 rfl (lv_at hl 3 rfl) ?_
          refine lv_aload_n hx hb dX7_isLeastTold_51 rfl (lv_at hl 0 rfl) ?_
          refine q_getR (T := TX7) (N := 12) X hH hf iw_X7 rfl (by decide) tw_253 (fun _ h => h) dX7_isLeastTold_52 (fun v1 hf => ?_)
          refine q_getIN (T := TX6) (N := 6) X hH hf iw_X6 rfl (by decide) (List.mem_of_getElem? (i := 0) rfl) (fun _ h => h) dX7_isLeastTold_55 (fun v2 hf => ?_)
          refine lv_icmp_ge (tgt := 104) hx hb dX7_isLeastTold_58 (by decide) (fun c3 => ?_) (fun c3 => ?_)
          · have hf := (if_pos c3).mp hf
            exact hJ104 S l0 l1 l2 hf H locs ls hH (lv_sub hl [0, 1, 2] rfl)
          · have hf := (if_neg c3).mp hf
            refine lv_aload_n hx hb dX7_isLeastTold_61 rfl (lv_at hl 0 rfl) ?_
            refine q_getR (T := TX7) (N := 12) X hH hf iw_X7 rfl (by decide) tw_258 (fun _ h => h) dX7_isLeastTold_62 (fun v4 hf => ?_)
            refine lv_iload_n hx hb dX7_isLeastTold_65 rfl (lv_at hl 2 rfl) ?_
            refine lv_iload_n hx hb dX7_isLeastTold_66 rfl (lv_at hl 3 rfl) ?_
            obtain ⟨hb1, hb2, hf⟩ := hf
            refine q_backI0 X hH (q_runV [.int l2, .int l3] [] X hH hl (c_X0_leastApart l D cy G X.2.2.2.1 S v4 l2 l3 _ _ hf) mf_X0_leastApart mv_X0_leastApart tw_547 ⟨Nat.le_of_ble_eq_true rfl, Nat.le_of_ble_eq_true rfl⟩ hb1 hb2 (T := TX0) (N := 2) rfl rfl (Nat.le_of_ble_eq_true rfl) dX7_isLeastTold_67 ⟨Nat.le_of_ble_eq_true rfl, Nat.le_of_ble_eq_true rfl⟩) (fun v6 S5 hf H locs hH => ?_)
            refine lv_istore (lv' := [(4, .int v6), (0, .ref l0), (1, .int l1), (2, .int l2), (3, .int l3)]) hx hb dX7_isLeastTold_70 hl (by decide) rfl (fun ls hl => ?_)
            refine lv_iload hx hb dX7_isLeastTold_72 (lv_at hl 0 rfl) ?_
            refine lv_aload_n hx hb dX7_isLeastTold_74 rfl (lv_at hl 1 rfl) ?_
            refine q_getR (T := TX7) (N := 12) X hH hf iw_X7 rfl (by decide) tw_259 (fun _ h => h) dX7_isLeastTold_75 (fun v7 hf => ?_)
            refine lv_aload_n hx hb dX7_isLeastTold_78 rfl (lv_at hl 1 rfl) ?_
            refine q_getR (T := TX7) (N := 12) X hH hf iw_X7 rfl (by decide) tw_253 (fun _ h => h) dX7_isLeastTold_79 (fun v8 hf => ?_)
            refine lv_iload_n hx hb dX7_isLeastTold_82 rfl (lv_at hl 3 rfl) ?_
            refine lv_iload_n hx hb dX7_isLeastTold_83 rfl (lv_at hl 4 rfl) ?_
            obtain ⟨hb1, hb2, hf⟩ := hf
            refine q_backI0 X hH (q_runV [.ref v8, .int l2, .int l3] [.int v6] X hH hl (c_X1_mostFlow l D cy G X.2.2.2.1 S5 v7 v8 l2 l3 _ _ hf) mf_X1_mostFlow mv_X1_mostFlow tw_558 ⟨Nat.le_of_ble_eq_true rfl, Nat.le_of_ble_eq_true rfl⟩ hb1 hb2 (T := TX1) (N := 3) rfl rfl (Nat.le_of_ble_eq_true rfl) dX7_isLeastTold_84 ⟨Nat.le_of_ble_eq_true rfl, Nat.le_of_ble_eq_true rfl⟩) (fun v10 S9 hf H locs hH => ?_)
            refine lv_icmp_ne (tgt := 96) hx hb dX7_isLeastTold_87 (by decide) (fun c11 => ?_) (fun c11 => ?_)
            · have hf := (if_neg c11).mp hf
              refine lv_iconst (v := 0) hx hb dX7_isLeastTold_96 (by decide) ?_
              exact q_retZ X hH hr hlk hf (Nat.zero_le _) (Nat.zero_le _) dX7_isLeastTold_97
            · have hf := (if_pos c11).mp hf
              refine lv_iload_n hx hb dX7_isLeastTold_90 rfl (lv_at hl 2 rfl) ?_
              refine lv_iload hx hb dX7_isLeastTold_91 (lv_at hl 0 rfl) ?_
              refine lv_icmp_le (tgt := 98) hx hb dX7_isLeastTold_93 (by decide) (fun c12 => ?_) (fun c12 => ?_)
              · have hf := (if_pos c12).mp hf
                refine lv_iinc (v := l3 + 1) (lv' := [(3, .int (l3 + 1)), (4, .int v6), (0, .ref l0), (1, .int l1), (2, .int l2)]) hx hb dX7_isLeastTold_98 hl (k := 4) rfl rfl (by decide) rfl (fun ls hl => ?_)
                refine lv_goto (tgt := 50) hx hb dX7_isLeastTold_101 (by decide) ?_
                exact ih50 S9 l0 l1 l2 (l3 + 1) hf H locs ls hH (lv_sub hl [2, 3, 4, 0] rfl)
              · have hf := (if_neg c12).mp hf
                refine lv_iconst (v := 0) hx hb dX7_isLeastTold_96 (by decide) ?_
                exact q_retZ X hH hr hlk hf (Nat.zero_le _) (Nat.zero_le _) dX7_isLeastTold_97
      refine lv_iload_n hx hb dX7_isLeastTold_35 rfl (lv_at hl 2 rfl) ?_
      refine lv_aload_n hx hb dX7_isLeastTold_36 rfl (lv_at hl 0 rfl) ?_
      refine q_getR (T := TX7) (N := 12) X hH hf iw_X7 rfl (by decide) tw_253 (fun _ h => h) dX7_isLeastTold_37 (fun v1 hf => ?_)
      refine q_getIN (T := TX6) (N := 6) X hH hf iw_X6 rfl (by decide) (List.mem_of_getElem? (i := 0) rfl) (fun _ h => h) dX7_isLeastTold_40 (fun v2 hf => ?_)
      refine lv_icmp_ge (tgt := 110) hx hb dX7_isLeastTold_43 (by decide) (fun c3 => ?_) (fun c3 => ?_)
      · have hf := (if_pos c3).mp hf
        refine lv_iconst (v := 1) hx hb dX7_isLeastTold_110 (by decide) ?_
        exact q_retZ X hH hr hlk hf (Nat.zero_le _) (Nat.zero_le _) dX7_isLeastTold_111
      · have hf := (if_neg c3).mp hf
        refine lv_iload_n hx hb dX7_isLeastTold_46 rfl (lv_at hl 2 rfl) ?_
        refine lv_iconst (v := 1) hx hb dX7_isLeastTold_47 (by decide) ?_
        refine lv_iadd hx hb dX7_isLeastTold_48 ?_
        refine lv_istore_n (lv' := [(3, .int (l2 + 1)), (0, .ref l0), (1, .int l1), (2, .int l2)]) hx hb dX7_isLeastTold_49 rfl hl (by decide) rfl (fun ls hl => ?_)
        exact hL50 4096 S l0 l1 l2 (l2 + 1) hf H locs ls hH (lv_sub hl [1, 2, 3, 0] rfl)
  refine lv_aload_n hx hb dX7_isLeastTold_0 rfl (lv_at hl 0 rfl) ?_
  refine lv_aload_n hx hb dX7_isLeastTold_1 rfl (lv_at hl 0 rfl) ?_
  refine q_getR (T := TX7) (N := 12) X hH hf iw_X7 rfl (by decide) tw_253 (fun _ h => h) dX7_isLeastTold_2 (fun v1 hf => ?_)
  obtain ⟨hb1, hb2, hf⟩ := hf
  refine q_backI0 X hH (q_runV [.ref v1] [] X hH hl (c_X7_leastByPhases l D cy G X.2.2.2.1 S a0 v1 _ _ hf) mf_X7_leastByPhases mv_X7_leastByPhases tw_649 ⟨Nat.le_of_ble_eq_true rfl, Nat.le_of_ble_eq_true rfl⟩ hb1 hb2 (T := TX7) (N := 12) rfl rfl (Nat.le_of_ble_eq_true rfl) dX7_isLeastTold_5 ⟨Nat.le_of_ble_eq_true rfl, Nat.le_of_ble_eq_true rfl⟩) (fun v3 S2 hf H locs hH => ?_)
  refine lv_istore_n (lv' := [(1, .int v3), (0, .ref a0)]) hx hb dX7_isLeastTold_8 rfl hl (by decide) rfl (fun ls hl => ?_)
  refine lv_aload_n hx hb dX7_isLeastTold_9 rfl (lv_at hl 1 rfl) ?_
  refine q_getR (T := TX7) (N := 12) X hH hf iw_X7 rfl (by decide) tw_258 (fun _ h => h) dX7_isLeastTold_10 (fun v4 hf => ?_)
  refine lv_aload_n hx hb dX7_isLeastTold_13 rfl (lv_at hl 1 rfl) ?_
  refine q_getR (T := TX7) (N := 12) X hH hf iw_X7 rfl (by decide) tw_253 (fun _ h => h) dX7_isLeastTold_14 (fun v5 hf => ?_)
  obtain ⟨hb1, hb2, hf⟩ := hf
  refine q_backV0 X hH (q_runV [.ref v5] [] X hH hl (c_X0_measure l D cy G X.2.2.2.1 S2 v4 v5 _ _ hf) mf_X0_measure mv_X0_measure tw_540 ⟨Nat.le_of_ble_eq_true rfl, Nat.le_of_ble_eq_true rfl⟩ hb1 hb2 (T := TX0) (N := 2) rfl rfl (Nat.le_of_ble_eq_true rfl) dX7_isLeastTold_17 ⟨Nat.le_of_ble_eq_true rfl, Nat.le_of_ble_eq_true rfl⟩) (fun S6 hf H locs hH => ?_)
  refine lv_iload_n hx hb dX7_isLeastTold_20 rfl (lv_at hl 0 rfl) ?_
  refine lv_aload_n hx hb dX7_isLeastTold_21 rfl (lv_at hl 1 rfl) ?_
  refine q_getR (T := TX7) (N := 12) X hH hf iw_X7 rfl (by decide) tw_258 (fun _ h => h) dX7_isLeastTold_22 (fun v8 hf => ?_)
  obtain ⟨hb1, hb2, hf⟩ := hf
  refine q_backI0 X hH (q_runV [] [.int v3] X hH hl (c_X0_leastFeud l D cy G X.2.2.2.1 S6 v8 _ _ hf) mf_X0_leastFeud mv_X0_leastFeud tw_658 ⟨Nat.le_of_ble_eq_true rfl, Nat.le_of_ble_eq_true rfl⟩ hb1 hb2 (T := TX0) (N := 2) rfl rfl (Nat.le_of_ble_eq_true rfl) dX7_isLeastTold_25 ⟨Nat.le_of_ble_eq_true rfl, Nat.le_of_ble_eq_true rfl⟩) (fun v10 S9 hf H locs hH => ?_)
  refine lv_icmp_eq (tgt := 33) hx hb dX7_isLeastTold_28 (by decide) (fun c11 => ?_) (fun c11 => ?_)
  · have hf := (if_pos c11).mp hf
    refine lv_iconst (v := 0) hx hb dX7_isLeastTold_33 (by decide) ?_
    refine lv_istore_n (lv' := [(2, .int 0), (1, .int v3), (0, .ref a0)]) hx hb dX7_isLeastTold_34 rfl hl (by decide) rfl (fun ls hl => ?_)
    exact hL35 4096 S9 a0 v3 0 hf H locs ls hH (lv_sub hl [2, 1, 0] rfl)
  · have hf := (if_neg c11).mp hf
    refine lv_iconst (v := 0) hx hb dX7_isLeastTold_31 (by decide) ?_
    exact q_retZ X hH hr hlk hf (Nat.zero_le _) (Nat.zero_le _) dX7_isLeastTold_32
-- X7_writeBond
def f_X7_writeBond_J20 (post : PS → Prop) (S : PS) (bc bs : Nat) (l0 : Nat) (l1 : Int32) (l2 : Int32) : Prop :=
  gR S l0 11 9 fun v1 => (
  isO S v1 1 (
  ∃ mc3 ms3 : Nat, mc3 ≤ bc ∧ ms3 ≤ bs ∧ (f_J4_append_bf812 S v1 l1 mc3 ms3 fun v4 S2 => (
  gR S2 l0 11 9 fun v5 => (
  isO S2 v5 1 (
  ∃ mc7 ms7 : Nat, mc7 ≤ (bc - mc3) ∧ ms7 ≤ (bs - ms3) ∧ (f_J4_append_bf812 S2 v5 l2 mc7 ms7 fun v8 S6 => (
  gR S6 l0 11 9 fun v9 => (
  isO S6 v9 1 (
  ∃ mc11 ms11 : Nat, mc11 ≤ ((bc - mc3) - mc7) ∧ ms11 ≤ ((bs - ms3) - ms7) ∧ (f_J4_append_cf468 S6 v9 61 mc11 ms11 fun v12 S10 => (
  gR S10 l0 11 9 fun v13 => (
  gR S10 l0 11 0 fun v14 => (
  isO S10 v14 10 (
  f_X6_tie S10 v14 l1 l2 fun v16 S15 => (
  isO S15 v13 1 (
  ∃ mc18 ms18 : Nat, mc18 ≤ (((bc - mc3) - mc7) - mc11) ∧ ms18 ≤ (((bs - ms3) - ms7) - ms11) ∧ (f_J4_append_bf812 S15 v13 v16 mc18 ms18 fun v19 S17 => (
  post S17)))))))))))))))))))
def f_X7_writeBond (S : PS) (a0 : Nat) (a1 : Int32) (a2 : Int32) (bc bs : Nat) (post : PS → Prop) : Prop :=
  gR S a0 11 9 fun v1 => (
  isO S v1 1 (
  f_J4_length_8abf5 S v1 fun v3 S2 => (
  if v3 ≤ 0 then
    f_X7_writeBond_J20 post S2 bc bs a0 a1 a2
  else
    gR S2 a0 11 9 fun v5 => (
    isO S2 v5 1 (
    ∃ mc7 ms7 : Nat, mc7 ≤ bc ∧ ms7 ≤ bs ∧ (f_J4_append_cf468 S2 v5 32 mc7 ms7 fun v8 S6 => (
    f_X7_writeBond_J20 post S6 (bc - mc7) (bs - ms7) a0 a1 a2)))))))
abbrev rm_X7_writeBond (mc ms : Nat) : Room := { frames := 6, cells := mc, slots := ms, locals := 148 }
set_option maxHeartbeats 4000000 in
set_option maxRecDepth 100000 in
theorem c_X7_writeBond (l : Launch) (D : va_G) (cy : Nat → ClassId) (G : p_GT) (hG : p_ok G) (hGC : ∀ (A : Nat → Prop) (U : State) (H : Heap), G A U H → gC A U H) (dT dO : Nat) (hGT : ∀ (A : Nat → Prop) (U : State) (H : Heap), G A U H → gT dT dO A U H) (hGU : ∀ (A : Nat → Prop) (U : State) (H : Heap), G A U H → gU A U H) (S : PS) (a0 : Nat) (a1 : Int32) (a2 : Int32) (mc ms : Nat) (post : PS → Prop) (sz : Nat) (hf : f_X7_writeBond S a0 a1 a2 mc ms post) : p_Mv l D cy G S sz yX7_writeBond (Cond.code yX7_writeBond cX7_writeBond 3 none :: wG) (rm_X7_writeBond mc ms) [.ref a0, .int a1, .int a2] mc ms post := by
  refine q_start hG (Qc := fun A => va_Qv post (p_Post D cy A) A) mf_X7_writeBond (Nat.le_of_ble_eq_true rfl) (own := RX7) rfl ?_
  intro p e s m below meth c A X hr hlk hnm ls hl hH
  have hx := X.1.1
  have hb := X.1.2.1
  replace hl : lv_has ls 3 [(0, .ref a0), (1, .int a1), (2, .int a2)] := hl
  have main : ∀ (H : Heap) (locs : List Loc) (ls : Array Slot) (cells slots bc bs : Nat), f_X7_writeBond S a0 a1 a2 bc bs post → p_H D cy S A s H locs → lv_has ls 3 [(0, .ref a0), (1, .int a1), (2, .int a2)] → cells + bc ≤ mc ∧ slots + bs ≤ ms → W p l e (rm_X7_writeBond mc ms) s m [.ref a0, .int a1, .int a2].toArray below meth c H locs cells slots (MQ below (va_Qv post (p_Post D cy A) A) [.ref a0, .int a1, .int a2].toArray s mc ms A) (F0 m 0 ls []) := by
    intro H locs ls cells slots bc bs hf hH hl hB
    have hJ20 : ∀ (S : PS) (bc bs : Nat) (l0 : Nat) (l1 : Int32) (l2 : Int32), f_X7_writeBond_J20 post S bc bs l0 l1 l2 → ∀ (H : Heap) (locs : List Loc) (ls : Array Slot) (cells slots : Nat), p_H D cy S A s H locs → lv_has ls 3 [(0, .ref l0), (1, .int l1), (2, .int l2)] → cells + bc ≤ mc ∧ slots + bs ≤ ms → W p l e (rm_X7_writeBond mc ms) s m [.ref a0, .int a1, .int a2].toArray below meth c H locs cells slots (MQ below (va_Qv post (p_Post D cy A) A) [.ref a0, .int a1, .int a2].toArray s mc ms A) (F0 m 20 ls []) := by
      intro S bc bs l0 l1 l2 hf H locs ls cells slots hH hl hB
      refine lv_aload_n hx hb dX7_writeBond_20 rfl (lv_at hl 0 rfl) ?_
      refine q_getR (T := TX7) (N := 12) X hH hf iw_X7 rfl (by decide) tw_262 (fun _ h => h) dX7_writeBond_21 (fun v1 hf => ?_)
      refine lv_iload_n hx hb dX7_writeBond_24 rfl (lv_at hl 1 rfl) ?_
      obtain ⟨hb1, hb2, hf⟩ := hf
      obtain ⟨mc3, ms3, hm1, hs1, hf⟩ := hf
      refine q_backRB X hH hB hm1 hs1 (q_runV [.int l1] [] X hH hl (c_J4_append_bf812 l D cy G X.2.2.2.1 hGC dT dO hGT hGU S v1 l1 mc3 ms3 _ _ hf) mf_J4_append_bf812 mv_J4_append_bf812 tw_789 ⟨Nat.le_of_ble_eq_true rfl, Nat.le_of_ble_eq_true rfl⟩ hb1 hb2 (T := TJ4) (N := 4) rfl rfl (Nat.le_of_ble_eq_true rfl) dX7_writeBond_25 ⟨Nat.le_trans (Nat.add_le_add_left hm1 _) hB.1, Nat.le_trans (Nat.add_le_add_left hs1 _) hB.2⟩) (fun v4 S2 hf H locs cells slots hH hB => ?_)
      refine lv_pop hx hb dX7_writeBond_28 rfl ?_
      refine lv_aload_n hx hb dX7_writeBond_29 rfl (lv_at hl 0 rfl) ?_
      refine q_getR (T := TX7) (N := 12) X hH hf iw_X7 rfl (by decide) tw_262 (fun _ h => h) dX7_writeBond_30 (fun v5 hf => ?_)
      refine lv_iload_n hx hb dX7_writeBond_33 rfl (lv_at hl 2 rfl) ?_
      obtain ⟨hb1, hb2, hf⟩ := hf
      obtain ⟨mc7, ms7, hm1, hs1, hf⟩ := hf
      refine q_backRB X hH hB hm1 hs1 (q_runV [.int l2] [] X hH hl (c_J4_append_bf812 l D cy G X.2.2.2.1 hGC dT dO hGT hGU S2 v5 l2 mc7 ms7 _ _ hf) mf_J4_append_bf812 mv_J4_append_bf812 tw_789 ⟨Nat.le_of_ble_eq_true rfl, Nat.le_of_ble_eq_true rfl⟩ hb1 hb2 (T := TJ4) (N := 4) rfl rfl (Nat.le_of_ble_eq_true rfl) dX7_writeBond_34 ⟨Nat.le_trans (Nat.add_le_add_left hm1 _) hB.1, Nat.le_trans (Nat.add_le_add_left hs1 _) hB.2⟩) (fun v8 S6 hf H locs cells slots hH hB => ?_)
      refine lv_pop hx hb dX7_writeBond_37 rfl ?_
      refine lv_aload_n hx hb dX7_writeBond_38 rfl (lv_at hl 0 rfl) ?_
      refine q_getR (T := TX7) (N := 12) X hH hf iw_X7 rfl (by decide) tw_262 (fun _ h => h) dX7_writeBond_39 (fun v9 hf => ?_)
      refine lv_bipush (v := 61) hx hb dX7_writeBond_42 (by decide) ?_
      obtain ⟨hb1, hb2, hf⟩ := hf
      obtain ⟨mc11, ms11, hm1, hs1, hf⟩ := hf
      refine q_backRB X hH hB hm1 hs1 (q_runV [.int 61] [] X hH hl (c_J4_append_cf468 l D cy G X.2.2.2.1 hGC hGU S6 v9 61 mc11 ms11 _ _ hf) mf_J4_append_cf468 mv_J4_append_cf468 tw_734 ⟨Nat.le_of_ble_eq_true rfl, Nat.le_of_ble_eq_true rfl⟩ hb1 hb2 (T := TJ4) (N := 4) rfl rfl (Nat.le_of_ble_eq_true rfl) dX7_writeBond_44 ⟨Nat.le_trans (Nat.add_le_add_left hm1 _) hB.1, Nat.le_trans (Nat.add_le_add_left hs1 _) hB.2⟩) (fun v12 S10 hf H locs cells slots hH hB => ?_)
      refine lv_pop hx hb dX7_writeBond_47 rfl ?_
      refine lv_aload_n hx hb dX7_writeBond_48 rfl (lv_at hl 0 rfl) ?_
      refine q_getR (T := TX7) (N := 12) X hH hf iw_X7 rfl (by decide) tw_262 (fun _ h => h) dX7_writeBond_49 (fun v13 hf => ?_)
      refine lv_aload_n hx hb dX7_writeBond_52 rfl (lv_at hl 0 rfl) ?_
      refine q_getR (T := TX7) (N := 12) X hH hf iw_X7 rfl (by decide) tw_253 (fun _ h => h) dX7_writeBond_53 (fun v14 hf => ?_)
      refine lv_iload_n hx hb dX7_writeBond_56 rfl (lv_at hl 1 rfl) ?_
      refine lv_iload_n hx hb dX7_writeBond_57 rfl (lv_at hl 2 rfl) ?_
      obtain ⟨hb1, hb2, hf⟩ := hf
      refine q_backI0 X hH (q_runV [.int l1, .int l2] [.ref v13] X hH hl (c_X6_tie l D cy G X.2.2.2.1 S10 v14 l1 l2 _ _ hf) mf_X6_tie mv_X6_tie tw_722 ⟨Nat.le_of_ble_eq_true rfl, Nat.le_of_ble_eq_true rfl⟩ hb1 hb2 (T := TX6) (N := 6) rfl rfl (Nat.le_of_ble_eq_true rfl) dX7_writeBond_58 ⟨Nat.le_trans (Nat.le_add_right _ _) hB.1, Nat.le_trans (Nat.le_add_right _ _) hB.2⟩) (fun v16 S15 hf H locs hH => ?_)
      obtain ⟨hb1, hb2, hf⟩ := hf
      obtain ⟨mc18, ms18, hm1, hs1, hf⟩ := hf
      refine q_backRB X hH hB hm1 hs1 (q_runV [.int v16] [] X hH hl (c_J4_append_bf812 l D cy G X.2.2.2.1 hGC dT dO hGT hGU S15 v13 v16 mc18 ms18 _ _ hf) mf_J4_append_bf812 mv_J4_append_bf812 tw_789 ⟨Nat.le_of_ble_eq_true rfl, Nat.le_of_ble_eq_true rfl⟩ hb1 hb2 (T := TJ4) (N := 4) rfl rfl (Nat.le_of_ble_eq_true rfl) dX7_writeBond_61 ⟨Nat.le_trans (Nat.add_le_add_left hm1 _) hB.1, Nat.le_trans (Nat.add_le_add_left hs1 _) hB.2⟩) (fun v19 S17 hf H locs cells slots hH hB => ?_)
      refine lv_pop hx hb dX7_writeBond_64 rfl ?_
      exact q_retV X hH hr hlk hf (Nat.le_trans (Nat.le_add_right _ _) hB.1) (Nat.le_trans (Nat.le_add_right _ _) hB.2) dX7_writeBond_65
    refine lv_aload_n hx hb dX7_writeBond_0 rfl (lv_at hl 0 rfl) ?_
    refine q_getR (T := TX7) (N := 12) X hH hf iw_X7 rfl (by decide) tw_262 (fun _ h => h) dX7_writeBond_1 (fun v1 hf => ?_)
    obtain ⟨hb1, hb2, hf⟩ := hf
    refine q_backI0 X hH (q_runV [] [] X hH hl (c_J4_length_8abf5 l D cy G X.2.2.2.1 S v1 _ _ hf) mf_J4_length_8abf5 mv_J4_length_8abf5 tw_727 ⟨Nat.le_of_ble_eq_true rfl, Nat.le_of_ble_eq_true rfl⟩ hb1 hb2 (T := TJ4) (N := 4) rfl rfl (Nat.le_of_ble_eq_true rfl) dX7_writeBond_4 ⟨Nat.le_trans (Nat.le_add_right _ _) hB.1, Nat.le_trans (Nat.le_add_right _ _) hB.2⟩) (fun v3 S2 hf H locs hH => ?_)
    refine lv_if_le (tgt := 20) hx hb dX7_writeBond_7 (by decide) (fun c4 => ?_) (fun c4 => ?_)
    · have hf := (if_pos c4).mp hf
      exact hJ20 S2 bc bs a0 a1 a2 hf H locs ls cells slots hH hl hB
    · have hf := (if_neg c4).mp hf
      refine lv_aload_n hx hb dX7_writeBond_10 rfl (lv_at hl 0 rfl) ?_
      refine q_getR (T := TX7) (N := 12) X hH hf iw_X7 rfl (by decide) tw_262 (fun _ h => h) dX7_writeBond_11 (fun v5 hf => ?_)
      refine lv_bipush (v := 32) hx hb dX7_writeBond_14 (by decide) ?_
      obtain ⟨hb1, hb2, hf⟩ := hf
      obtain ⟨mc7, ms7, hm1, hs1, hf⟩ := hf
      refine q_backRB X hH hB hm1 hs1 (q_runV [.int 32] [] X hH hl (c_J4_append_cf468 l D cy G X.2.2.2.1 hGC hGU S2 v5 32 mc7 ms7 _ _ hf) mf_J4_append_cf468 mv_J4_append_cf468 tw_734 ⟨Nat.le_of_ble_eq_true rfl, Nat.le_of_ble_eq_true rfl⟩ hb1 hb2 (T := TJ4) (N := 4) rfl rfl (Nat.le_of_ble_eq_true rfl) dX7_writeBond_16 ⟨Nat.le_trans (Nat.add_le_add_left hm1 _) hB.1, Nat.le_trans (Nat.add_le_add_left hs1 _) hB.2⟩) (fun v8 S6 hf H locs cells slots hH hB => ?_)
      refine lv_pop hx hb dX7_writeBond_19 rfl ?_
      exact hJ20 S6 (bc - mc7) (bs - ms7) a0 a1 a2 hf H locs ls cells slots hH hl hB
  exact main s.heap [] ls 0 0 mc ms hf hH hl ⟨by omega, by omega⟩
-- X7_writeSet
def f_X7_writeSet_J25 (post : PS → Prop) (g2 : PS → Nat → Nat → Nat → Int32 → Int32 → Prop) (S : PS) (bc bs : Nat) (l0 : Nat) (l1 : Int32) (l2 : Int32) : Prop :=
  g2 S bc bs l0 l1 (l2 + 1)
def f_X7_writeSet_L2 (post : PS → Prop) : Nat → PS → Nat → Nat → Nat → Int32 → Int32 → Prop
  | 0, _, _, _, _, _, _ => False
  | n + 1, S, bc, bs, l0, l1, l2 =>
  if 9 ≤ l2 then
    post S
  else
    f_X7_isIn S l1 l2 fun v3 S2 => (
    if v3 = 0 then
      f_X7_writeSet_J25 post (f_X7_writeSet_L2 post n) S2 bc bs l0 l1 l2
    else
      gR S2 l0 11 9 fun v5 => (
      isO S2 v5 1 (
      ∃ mc7 ms7 : Nat, mc7 ≤ bc ∧ ms7 ≤ bs ∧ (f_J4_append_bf812 S2 v5 l2 mc7 ms7 fun v8 S6 => (
      f_X7_writeSet_J25 post (f_X7_writeSet_L2 post n) S6 (bc - mc7) (bs - ms7) l0 l1 l2)))))
def f_X7_writeSet (S : PS) (a0 : Nat) (a1 : Int32) (bc bs : Nat) (post : PS → Prop) : Prop :=
  f_X7_writeSet_L2 post 4096 S bc bs a0 a1 0
abbrev rm_X7_writeSet (mc ms : Nat) : Room := { frames := 6, cells := mc, slots := ms, locals := 148 }
set_option maxHeartbeats 4000000 in
set_option maxRecDepth 100000 in
theorem c_X7_writeSet (l : Launch) (D : va_G) (cy : Nat → ClassId) (G : p_GT) (hG : p_ok G) (hGC : ∀ (A : Nat → Prop) (U : State) (H : Heap), G A U H → gC A U H) (dT dO : Nat) (hGT : ∀ (A : Nat → Prop) (U : State) (H : Heap), G A U H → gT dT dO A U H) (hGU : ∀ (A : Nat → Prop) (U : State) (H : Heap), G A U H → gU A U H) (S : PS) (a0 : Nat) (a1 : Int32) (mc ms : Nat) (post : PS → Prop) (sz : Nat) (hf : f_X7_writeSet S a0 a1 mc ms post) : p_Mv l D cy G S sz yX7_writeSet (Cond.code yX7_writeSet cX7_writeSet 3 none :: wG) (rm_X7_writeSet mc ms) [.ref a0, .int a1] mc ms post := by
  refine q_start hG (Qc := fun A => va_Qv post (p_Post D cy A) A) mf_X7_writeSet (Nat.le_of_ble_eq_true rfl) (own := RX7) rfl ?_
  intro p e s m below meth c A X hr hlk hnm ls hl hH
  have hx := X.1.1
  have hb := X.1.2.1
  replace hl : lv_has ls 3 [(0, .ref a0), (1, .int a1)] := hl
  have main : ∀ (H : Heap) (locs : List Loc) (ls : Array Slot) (cells slots bc bs : Nat), f_X7_writeSet S a0 a1 bc bs post → p_H D cy S A s H locs → lv_has ls 3 [(0, .ref a0), (1, .int a1)] → cells + bc ≤ mc ∧ slots + bs ≤ ms → W p l e (rm_X7_writeSet mc ms) s m [.ref a0, .int a1].toArray below meth c H locs cells slots (MQ below (va_Qv post (p_Post D cy A) A) [.ref a0, .int a1].toArray s mc ms A) (F0 m 0 ls []) := by
    intro H locs ls cells slots bc bs hf hH hl hB
    have hL2 : ∀ (n2 : Nat) (S : PS) (bc bs : Nat) (l0 : Nat) (l1 : Int32) (l2 : Int32), f_X7_writeSet_L2 post n2 S bc bs l0 l1 l2 → ∀ (H : Heap) (locs : List Loc) (ls : Array Slot) (cells slots : Nat), p_H D cy S A s H locs → lv_has ls 3 [(0, .ref l0), (1, .int l1), (2, .int l2)] → cells + bc ≤ mc ∧ slots + bs ≤ ms → W p l e (rm_X7_writeSet mc ms) s m [.ref a0, .int a1].toArray below meth c H locs cells slots (MQ below (va_Qv post (p_Post D cy A) A) [.ref a0, .int a1].toArray s mc ms A) (F0 m 2 ls []) := by
      intro n2
      induction n2 with
      | zero => intro S bc bs l0 l1 l2 hf; exact hf.elim
      | succ n2 ih2 =>
        intro S bc bs l0 l1 l2 hf H locs ls cells slots hH hl hB
        have hJ25 : ∀ (S : PS) (bc bs : Nat) (l0 : Nat) (l1 : Int32) (l2 : Int32), f_X7_writeSet_J25 post (f_X7_writeSet_L2 post n2) S bc bs l0 l1 l2 → ∀ (H : Heap) (locs : List Loc) (ls : Array Slot) (cells slots : Nat), p_H D cy S A s H locs → lv_has ls 3 [(0, .ref l0), (1, .int l1), (2, .int l2)] → cells + bc ≤ mc ∧ slots + bs ≤ ms → W p l e (rm_X7_writeSet mc ms) s m [.ref a0, .int a1].toArray below meth c H locs cells slots (MQ below (va_Qv post (p_Post D cy A) A) [.ref a0, .int a1].toArray s mc ms A) (F0 m 25 ls []) := by
          intro S bc bs l0 l1 l2 hf H locs ls cells slots hH hl hB
          refine lv_iinc (v := l2 + 1) (lv' := [(2, .int (l2 + 1)), (0, .ref l0), (1, .int l1)]) hx hb dX7_writeSet_25 hl (k := 2) rfl rfl (by decide) rfl (fun ls hl => ?_)
          refine lv_goto (tgt := 2) hx hb dX7_writeSet_28 (by decide) ?_
          exact ih2 S bc bs l0 l1 (l2 + 1) hf H locs ls cells slots hH (lv_sub hl [1, 2, 0] rfl) hB
        refine lv_iload_n hx hb dX7_writeSet_2 rfl (lv_at hl 2 rfl) ?_
        refine lv_bipush (v := 9) hx hb dX7_writeSet_3 (by decide) ?_
        refine lv_icmp_ge (tgt := 31) hx hb dX7_writeSet_5 (by decide) (fun c1 => ?_) (fun c1 => ?_)
        · have hf := (if_pos c1).mp hf
          exact q_retV X hH hr hlk hf (Nat.le_trans (Nat.le_add_right _ _) hB.1) (Nat.le_trans (Nat.le_add_right _ _) hB.2) dX7_writeSet_31
        · have hf := (if_neg c1).mp hf
          refine lv_iload_n hx hb dX7_writeSet_8 rfl (lv_at hl 1 rfl) ?_
          refine lv_iload_n hx hb dX7_writeSet_9 rfl (lv_at hl 2 rfl) ?_
          refine q_backI0 X hH (q_runS [.int l1, .int l2] [] X hH hl (c_X7_isIn l D cy G X.2.2.2.1 S l1 l2 _ _ hf) mf_X7_isIn tw_372 tw_494 ⟨Nat.le_of_ble_eq_true rfl, Nat.le_of_ble_eq_true rfl⟩ rfl (Nat.le_of_ble_eq_true rfl) dX7_writeSet_10 ⟨Nat.le_trans (Nat.le_add_right _ _) hB.1, Nat.le_trans (Nat.le_add_right _ _) hB.2⟩) (fun v3 S2 hf H locs hH => ?_)
          refine lv_if_eq (tgt := 25) hx hb dX7_writeSet_13 (by decide) (fun c4 => ?_) (fun c4 => ?_)
          · have hf := (if_pos c4).mp hf
            exact hJ25 S2 bc bs l0 l1 l2 hf H locs ls cells slots hH hl hB
          · have hf := (if_neg c4).mp hf
            refine lv_aload_n hx hb dX7_writeSet_16 rfl (lv_at hl 0 rfl) ?_
            refine q_getR (T := TX7) (N := 12) X hH hf iw_X7 rfl (by decide) tw_262 (fun _ h => h) dX7_writeSet_17 (fun v5 hf => ?_)
            refine lv_iload_n hx hb dX7_writeSet_20 rfl (lv_at hl 2 rfl) ?_
            obtain ⟨hb1, hb2, hf⟩ := hf
            obtain ⟨mc7, ms7, hm1, hs1, hf⟩ := hf
            refine q_backRB X hH hB hm1 hs1 (q_runV [.int l2] [] X hH hl (c_J4_append_bf812 l D cy G X.2.2.2.1 hGC dT dO hGT hGU S2 v5 l2 mc7 ms7 _ _ hf) mf_J4_append_bf812 mv_J4_append_bf812 tw_789 ⟨Nat.le_of_ble_eq_true rfl, Nat.le_of_ble_eq_true rfl⟩ hb1 hb2 (T := TJ4) (N := 4) rfl rfl (Nat.le_of_ble_eq_true rfl) dX7_writeSet_21 ⟨Nat.le_trans (Nat.add_le_add_left hm1 _) hB.1, Nat.le_trans (Nat.add_le_add_left hs1 _) hB.2⟩) (fun v8 S6 hf H locs cells slots hH hB => ?_)
            refine lv_pop hx hb dX7_writeSet_24 rfl ?_
            exact hJ25 S6 (bc - mc7) (bs - ms7) l0 l1 l2 hf H locs ls cells slots hH hl hB
    refine lv_iconst (v := 0) hx hb dX7_writeSet_0 (by decide) ?_
    refine lv_istore_n (lv' := [(2, .int 0), (0, .ref a0), (1, .int a1)]) hx hb dX7_writeSet_1 rfl hl (by decide) rfl (fun ls hl => ?_)
    exact hL2 4096 S bc bs a0 a1 0 hf H locs ls cells slots hH (lv_sub hl [1, 2, 0] rfl) hB
  exact main s.heap [] ls 0 0 mc ms hf hH hl ⟨by omega, by omega⟩
-- X7_least
def f_X7_least (S : PS) (a0 : Nat) (bc bs : Nat) (post : Int32 → PS → Prop) (postX : String → PS → Prop) : Prop :=
  isO S a0 11 (
  f_X7_isTooSmall S a0 fun v2 S1 => (
  if v2 = 0 then
    gR S1 a0 11 0 fun v4 => (
    isO S1 a0 11 (
    f_X7_leastByPhases S1 a0 v4 fun v6 S5 => (
    post v6 S5)))
  else
    tX S1 "java/util/NoSuchElementException" bc bs postX))
abbrev rm_X7_least (mc ms : Nat) : Room := { frames := 6, cells := mc, slots := ms, locals := 115 }
set_option maxHeartbeats 4000000 in
set_option maxRecDepth 100000 in
theorem c_X7_least (l : Launch) (D : va_G) (cy : Nat → ClassId) (G : p_GT) (hG : p_ok G) (hst : l.stackTraces = false) (hGE : ∀ (A : Nat → Prop) (U : State) (H : Heap), G A U H → p_Ex A U H) (S : PS) (a0 : Nat) (mc ms : Nat) (post : Int32 → PS → Prop) (postX : String → PS → Prop) (sz : Nat) (hf : f_X7_least S a0 mc ms post postX) : p_Xi l D cy G S sz yX7_least (Cond.code yX7_least cX7_least 1 (some .int) :: wG) (rm_X7_least mc ms) [.ref a0] mc ms post postX := by
  refine q_startX hG (Qc := fun A => va_Qi post (p_Post D cy A) A) (XC := fun A => p_XC D cy A postX) mf_X7_least (Nat.le_of_ble_eq_true rfl) (own := RX7) rfl ?_
  intro p e s m below meth c A X hr hlk hnm htab ls hl hH
  have hx := X.1.1
  have hb := X.1.2.1
  replace hl : lv_has ls 1 [(0, .ref a0)] := hl
  have main : ∀ (H : Heap) (locs : List Loc) (ls : Array Slot) (cells slots bc bs : Nat), f_X7_least S a0 bc bs post postX → p_H D cy S A s H locs → lv_has ls 1 [(0, .ref a0)] → cells + bc ≤ mc ∧ slots + bs ≤ ms → W p l e (rm_X7_least mc ms) s m [.ref a0].toArray below meth c H locs cells slots (vx_MQ below (va_Qi post (p_Post D cy A) A) (p_XC D cy A postX) [.ref a0].toArray s mc ms A) (F0 m 0 ls []) := by
    intro H locs ls cells slots bc bs hf hH hl hB
    refine lv_aload_n hx hb dX7_least_0 rfl (lv_at hl 0 rfl) ?_
    obtain ⟨hb1, hb2, hf⟩ := hf
    refine q_backI0 X hH (q_runV [] [] X hH hl (c_X7_isTooSmall l D cy G X.2.2.2.1 S a0 _ _ hf) mf_X7_isTooSmall mv_X7_isTooSmall tw_624 ⟨Nat.le_of_ble_eq_true rfl, Nat.le_of_ble_eq_true rfl⟩ hb1 hb2 (T := TX7) (N := 12) rfl rfl (Nat.le_of_ble_eq_true rfl) dX7_least_1 ⟨Nat.le_trans (Nat.le_add_right _ _) hB.1, Nat.le_trans (Nat.le_add_right _ _) hB.2⟩) (fun v2 S1 hf H locs hH => ?_)
    refine lv_if_eq (tgt := 17) hx hb dX7_least_4 (by decide) (fun c3 => ?_) (fun c3 => ?_)
    · have hf := (if_pos c3).mp hf
      refine lv_aload_n hx hb dX7_least_17 rfl (lv_at hl 0 rfl) ?_
      refine lv_aload_n hx hb dX7_least_18 rfl (lv_at hl 0 rfl) ?_
      refine q_getR (T := TX7) (N := 12) X hH hf iw_X7 rfl (by decide) tw_253 (fun _ h => h) dX7_least_19 (fun v4 hf => ?_)
      obtain ⟨hb1, hb2, hf⟩ := hf
      refine q_backI0 X hH (q_runV [.ref v4] [] X hH hl (c_X7_leastByPhases l D cy G X.2.2.2.1 S1 a0 v4 _ _ hf) mf_X7_leastByPhases mv_X7_leastByPhases tw_649 ⟨Nat.le_of_ble_eq_true rfl, Nat.le_of_ble_eq_true rfl⟩ hb1 hb2 (T := TX7) (N := 12) rfl rfl (Nat.le_of_ble_eq_true rfl) dX7_least_22 ⟨Nat.le_trans (Nat.le_add_right _ _) hB.1, Nat.le_trans (Nat.le_add_right _ _) hB.2⟩) (fun v6 S5 hf H locs hH => ?_)
      exact vx_ret (q_retI X hH hr hlk hf (Nat.le_trans (Nat.le_add_right _ _) hB.1) (Nat.le_trans (Nat.le_add_right _ _) hB.2) dX7_least_25)
    · have hf := (if_neg c3).mp hf
      exact q_throwX (by decide +kernel) (by decide +kernel) (by decide +kernel) (by decide +kernel) X hH hl hB rfl rfl hst (hGE _ _ _ X.2.2.2.2) hf tw_518 tw_49 (text := "there are fewer than two households") (List.mem_of_getElem? (i := 6) rfl) xa_NoSuchElementException xg_NoSuchElementException (by decide +kernel) (by decide +kernel) dX7_least_7 dX7_least_10 dX7_least_11 dX7_least_13 dX7_least_16 htab ⟨Nat.le_of_ble_eq_true rfl, Nat.le_of_ble_eq_true rfl⟩ (Nat.le_of_ble_eq_true rfl) hlk
  exact main s.heap [] ls 0 0 mc ms hf hH hl ⟨by omega, by omega⟩
-- X7_isTold
def f_X7_isTold (S : PS) (a0 : Nat) (post : Int32 → PS → Prop) : Prop :=
  gR S a0 11 0 fun v1 => (
  isO S v1 10 (
  f_X6_feudByBonds S v1 fun v3 S2 => (
  gR S2 a0 11 0 fun v4 => (
  isO S2 v4 10 (
  f_X6_feudByHalves S2 v4 fun v6 S5 => (
  if v3 = v6 then
    isO S5 a0 11 (
    f_X7_isTooSmall S5 a0 fun v9 S8 => (
    if v9 = 0 then
      isO S8 a0 11 (
      f_X7_isLeastTold S8 a0 fun v12 S11 => (
      if v12 = 0 then
        nZ .boolean 0 (post 0 S11)
      else
        nZ .boolean 1 (post 1 S11)))
    else
      nZ .boolean 1 (post 1 S8)))
  else
    nZ .boolean 0 (post 0 S5)))))))
abbrev rm_X7_isTold : Room := { frames := 6, cells := 0, slots := 0, locals := 139 }
set_option maxHeartbeats 4000000 in
set_option maxRecDepth 100000 in
theorem c_X7_isTold (l : Launch) (D : va_G) (cy : Nat → ClassId) (G : p_GT) (hG : p_ok G) (S : PS) (a0 : Nat) (post : Int32 → PS → Prop) (sz : Nat) (hf : f_X7_isTold S a0 post) : p_Mi l D cy G S sz yX7_isTold (Cond.code yX7_isTold cX7_isTold 1 (some .boolean) :: wG) rm_X7_isTold [.ref a0] 0 0 post := by
  refine q_start hG (Qc := fun A => va_Qi post (p_Post D cy A) A) mf_X7_isTold (Nat.le_of_ble_eq_true rfl) (own := RX7) rfl ?_
  intro p e s m below meth c A X hr hlk hnm ls hl hH
  have hx := X.1.1
  have hb := X.1.2.1
  replace hl : lv_has ls 1 [(0, .ref a0)] := hl
  obtain ⟨H, hHe⟩ : ∃ H, H = s.heap := ⟨_, rfl⟩
  obtain ⟨locs, hlo⟩ : ∃ locs : List Loc, locs = [] := ⟨_, rfl⟩
  rw [← hHe, ← hlo] at hH
  show W p l e rm_X7_isTold s m [.ref a0].toArray below meth c s.heap [] 0 0 _ _
  rw [← hHe, ← hlo]
  refine lv_aload_n hx hb dX7_isTold_0 rfl (lv_at hl 0 rfl) ?_
  refine q_getR (T := TX7) (N := 12) X hH hf iw_X7 rfl (by decide) tw_253 (fun _ h => h) dX7_isTold_1 (fun v1 hf => ?_)
  obtain ⟨hb1, hb2, hf⟩ := hf
  refine q_backI0 X hH (q_runV [] [] X hH hl (c_X6_feudByBonds l D cy G X.2.2.2.1 S v1 _ _ hf) mf_X6_feudByBonds mv_X6_feudByBonds tw_426 ⟨Nat.le_of_ble_eq_true rfl, Nat.le_of_ble_eq_true rfl⟩ hb1 hb2 (T := TX6) (N := 6) rfl rfl (Nat.le_of_ble_eq_true rfl) dX7_isTold_4 ⟨Nat.le_of_ble_eq_true rfl, Nat.le_of_ble_eq_true rfl⟩) (fun v3 S2 hf H locs hH => ?_)
  refine lv_aload_n hx hb dX7_isTold_7 rfl (lv_at hl 0 rfl) ?_
  refine q_getR (T := TX7) (N := 12) X hH hf iw_X7 rfl (by decide) tw_253 (fun _ h => h) dX7_isTold_8 (fun v4 hf => ?_)
  obtain ⟨hb1, hb2, hf⟩ := hf
  refine q_backI0 X hH (q_runV [] [.int v3] X hH hl (c_X6_feudByHalves l D cy G X.2.2.2.1 S2 v4 _ _ hf) mf_X6_feudByHalves mv_X6_feudByHalves tw_434 ⟨Nat.le_of_ble_eq_true rfl, Nat.le_of_ble_eq_true rfl⟩ hb1 hb2 (T := TX6) (N := 6) rfl rfl (Nat.le_of_ble_eq_true rfl) dX7_isTold_11 ⟨Nat.le_of_ble_eq_true rfl, Nat.le_of_ble_eq_true rfl⟩) (fun v6 S5 hf H locs hH => ?_)
  refine lv_icmp_eq (tgt := 19) hx hb dX7_isTold_14 (by decide) (fun c7 => ?_) (fun c7 => ?_)
  · have hf := (if_pos c7).mp hf
    refine lv_aload_n hx hb dX7_isTold_19 rfl (lv_at hl 0 rfl) ?_
    obtain ⟨hb1, hb2, hf⟩ := hf
    refine q_backI0 X hH (q_runV [] [] X hH hl (c_X7_isTooSmall l D cy G X.2.2.2.1 S5 a0 _ _ hf) mf_X7_isTooSmall mv_X7_isTooSmall tw_624 ⟨Nat.le_of_ble_eq_true rfl, Nat.le_of_ble_eq_true rfl⟩ hb1 hb2 (T := TX7) (N := 12) rfl rfl (Nat.le_of_ble_eq_true rfl) dX7_isTold_20 ⟨Nat.le_of_ble_eq_true rfl, Nat.le_of_ble_eq_true rfl⟩) (fun v9 S8 hf H locs hH => ?_)
    refine lv_if_ne (tgt := 33) hx hb dX7_isTold_23 (by decide) (fun c10 => ?_) (fun c10 => ?_)
    · have hf := (if_neg c10).mp hf
      refine lv_iconst (v := 1) hx hb dX7_isTold_33 (by decide) ?_
      refine lv_goto (tgt := 38) hx hb dX7_isTold_34 (by decide) ?_
      exact q_retZ X hH hr hlk hf (Nat.zero_le _) (Nat.zero_le _) dX7_isTold_38
    · have hf := (if_pos c10).mp hf
      refine lv_aload_n hx hb dX7_isTold_26 rfl (lv_at hl 0 rfl) ?_
      obtain ⟨hb1, hb2, hf⟩ := hf
      refine q_backI0 X hH (q_runV [] [] X hH hl (c_X7_isLeastTold l D cy G X.2.2.2.1 S8 a0 _ _ hf) mf_X7_isLeastTold mv_X7_isLeastTold tw_645 ⟨Nat.le_of_ble_eq_true rfl, Nat.le_of_ble_eq_true rfl⟩ hb1 hb2 (T := TX7) (N := 12) rfl rfl (Nat.le_of_ble_eq_true rfl) dX7_isTold_27 ⟨Nat.le_of_ble_eq_true rfl, Nat.le_of_ble_eq_true rfl⟩) (fun v12 S11 hf H locs hH => ?_)
      refine lv_if_eq (tgt := 37) hx hb dX7_isTold_30 (by decide) (fun c13 => ?_) (fun c13 => ?_)
      · have hf := (if_pos c13).mp hf
        refine lv_iconst (v := 0) hx hb dX7_isTold_37 (by decide) ?_
        exact q_retZ X hH hr hlk hf (Nat.zero_le _) (Nat.zero_le _) dX7_isTold_38
      · have hf := (if_neg c13).mp hf
        refine lv_iconst (v := 1) hx hb dX7_isTold_33 (by decide) ?_
        refine lv_goto (tgt := 38) hx hb dX7_isTold_34 (by decide) ?_
        exact q_retZ X hH hr hlk hf (Nat.zero_le _) (Nat.zero_le _) dX7_isTold_38
  · have hf := (if_neg c7).mp hf
    refine lv_iconst (v := 0) hx hb dX7_isTold_17 (by decide) ?_
    exact q_retZ X hH hr hlk hf (Nat.zero_le _) (Nat.zero_le _) dX7_isTold_18
-- X7_tell
def f_X7_tell_J66 (post : Int32 → PS → Prop) (S : PS) (bc bs : Nat) (l0 : Nat) : Prop :=
  gR S l0 11 9 fun v1 => (
  isO S v1 1 (
  f_J4_length_8abf5 S v1 fun v3 S2 => (
  post v3 S2)))
def f_X7_tell_J60 (post : Int32 → PS → Prop) (g10 : PS → Nat → Nat → Nat → Int32 → Prop) (S : PS) (bc bs : Nat) (l0 : Nat) (l1 : Int32) : Prop :=
  g10 S bc bs l0 (l1 + 1)
def f_X7_tell_J54 (post : Int32 → PS → Prop) (g25 : PS → Nat → Nat → Nat → Int32 → Int32 → Prop) (S : PS) (bc bs : Nat) (l0 : Nat) (l1 : Int32) (l2 : Int32) : Prop :=
  g25 S bc bs l0 l1 (l2 + 1)
def f_X7_tell_L25 (post : Int32 → PS → Prop) (g10 : PS → Nat → Nat → Nat → Int32 → Prop) : Nat → PS → Nat → Nat → Nat → Int32 → Int32 → Prop
  | 0, _, _, _, _, _, _ => False
  | n + 1, S, bc, bs, l0, l1, l2 =>
  gR S l0 11 0 fun v1 => (
  gI S v1 10 1 fun v2 => (
  if v2 ≤ l2 then
    f_X7_tell_J60 post g10 S bc bs l0 l1
  else
    gR S l0 11 0 fun v4 => (
    isO S v4 10 (
    f_X6_tie S v4 l1 l2 fun v6 S5 => (
    if v6 ≤ 0 then
      f_X7_tell_J54 post (f_X7_tell_L25 post g10 n) S5 bc bs l0 l1 l2
    else
      isO S5 l0 11 (
      ∃ mc9 ms9 : Nat, mc9 ≤ bc ∧ ms9 ≤ bs ∧ (f_X7_writeBond S5 l0 l1 l2 mc9 ms9 fun S8 => (
      f_X7_tell_J54 post (f_X7_tell_L25 post g10 n) S8 (bc - mc9) (bs - ms9) l0 l1 l2))))))))
def f_X7_tell_L10 (post : Int32 → PS → Prop) : Nat → PS → Nat → Nat → Nat → Int32 → Prop
  | 0, _, _, _, _, _ => False
  | n + 1, S, bc, bs, l0, l1 =>
  gR S l0 11 0 fun v1 => (
  gI S v1 10 1 fun v2 => (
  if v2 ≤ l1 then
    f_X7_tell_J66 post S bc bs l0
  else
    f_X7_tell_L25 post (f_X7_tell_L10 post n) 4096 S bc bs l0 l1 (l1 + 1)))
def f_X7_tell (S : PS) (a0 : Nat) (bc bs : Nat) (post : Int32 → PS → Prop) : Prop :=
  gR S a0 11 9 fun v1 => (
  isO S v1 1 (
  ∃ mc3 ms3 : Nat, mc3 ≤ bc ∧ ms3 ≤ bs ∧ (f_J4_setLength_d00df S v1 0 mc3 ms3 fun S2 => (
  f_X7_tell_L10 post 4096 S2 (bc - mc3) (bs - ms3) a0 0))))
abbrev rm_X7_tell (mc ms : Nat) : Room := { frames := 7, cells := mc, slots := ms, locals := 170 }
set_option maxHeartbeats 4000000 in
set_option maxRecDepth 100000 in
theorem c_X7_tell (l : Launch) (D : va_G) (cy : Nat → ClassId) (G : p_GT) (hG : p_ok G) (hGC : ∀ (A : Nat → Prop) (U : State) (H : Heap), G A U H → gC A U H) (dT dO : Nat) (hGT : ∀ (A : Nat → Prop) (U : State) (H : Heap), G A U H → gT dT dO A U H) (hGU : ∀ (A : Nat → Prop) (U : State) (H : Heap), G A U H → gU A U H) (S : PS) (a0 : Nat) (mc ms : Nat) (post : Int32 → PS → Prop) (sz : Nat) (hf : f_X7_tell S a0 mc ms post) : p_Mi l D cy G S sz yX7_tell (Cond.code yX7_tell cX7_tell 3 (some .int) :: wG) (rm_X7_tell mc ms) [.ref a0] mc ms post := by
  refine q_start hG (Qc := fun A => va_Qi post (p_Post D cy A) A) mf_X7_tell (Nat.le_of_ble_eq_true rfl) (own := RX7) rfl ?_
  intro p e s m below meth c A X hr hlk hnm ls hl hH
  have hx := X.1.1
  have hb := X.1.2.1
  replace hl : lv_has ls 3 [(0, .ref a0)] := hl
  have main : ∀ (H : Heap) (locs : List Loc) (ls : Array Slot) (cells slots bc bs : Nat), f_X7_tell S a0 bc bs post → p_H D cy S A s H locs → lv_has ls 3 [(0, .ref a0)] → cells + bc ≤ mc ∧ slots + bs ≤ ms → W p l e (rm_X7_tell mc ms) s m [.ref a0].toArray below meth c H locs cells slots (MQ below (va_Qi post (p_Post D cy A) A) [.ref a0].toArray s mc ms A) (F0 m 0 ls []) := by
    intro H locs ls cells slots bc bs hf hH hl hB
    have hL10 : ∀ (n10 : Nat) (S : PS) (bc bs : Nat) (l0 : Nat) (l1 : Int32), f_X7_tell_L10 post n10 S bc bs l0 l1 → ∀ (H : Heap) (locs : List Loc) (ls : Array Slot) (cells slots : Nat), p_H D cy S A s H locs → lv_has ls 3 [(0, .ref l0), (1, .int l1)] → cells + bc ≤ mc ∧ slots + bs ≤ ms → W p l e (rm_X7_tell mc ms) s m [.ref a0].toArray below meth c H locs cells slots (MQ below (va_Qi post (p_Post D cy A) A) [.ref a0].toArray s mc ms A) (F0 m 10 ls []) := by
      intro n10
      induction n10 with
      | zero => intro S bc bs l0 l1 hf; exact hf.elim
      | succ n10 ih10 =>
        intro S bc bs l0 l1 hf H locs ls cells slots hH hl hB
        have hJ66 : ∀ (S : PS) (bc bs : Nat) (l0 : Nat), f_X7_tell_J66 post S bc bs l0 → ∀ (H : Heap) (locs : List Loc) (ls : Array Slot) (cells slots : Nat), p_H D cy S A s H locs → lv_has ls 3 [(0, .ref l0)] → cells + bc ≤ mc ∧ slots + bs ≤ ms → W p l e (rm_X7_tell mc ms) s m [.ref a0].toArray below meth c H locs cells slots (MQ below (va_Qi post (p_Post D cy A) A) [.ref a0].toArray s mc ms A) (F0 m 66 ls []) := by
          intro S bc bs l0 hf H locs ls cells slots hH hl hB
          refine lv_aload_n hx hb dX7_tell_66 rfl (lv_at hl 0 rfl) ?_
          refine q_getR (T := TX7) (N := 12) X hH hf iw_X7 rfl (by decide) tw_262 (fun _ h => h) dX7_tell_67 (fun v1 hf => ?_)
          obtain ⟨hb1, hb2, hf⟩ := hf
          refine q_backI0 X hH (q_runV [] [] X hH hl (c_J4_length_8abf5 l D cy G X.2.2.2.1 S v1 _ _ hf) mf_J4_length_8abf5 mv_J4_length_8abf5 tw_727 ⟨Nat.le_of_ble_eq_true rfl, Nat.le_of_ble_eq_true rfl⟩ hb1 hb2 (T := TJ4) (N := 4) rfl rfl (Nat.le_of_ble_eq_true rfl) dX7_tell_70 ⟨Nat.le_trans (Nat.le_add_right _ _) hB.1, Nat.le_trans (Nat.le_add_right _ _) hB.2⟩) (fun v3 S2 hf H locs hH => ?_)
          exact q_retI X hH hr hlk hf (Nat.le_trans (Nat.le_add_right _ _) hB.1) (Nat.le_trans (Nat.le_add_right _ _) hB.2) dX7_tell_73
        have hL25 : ∀ (n25 : Nat) (S : PS) (bc bs : Nat) (l0 : Nat) (l1 : Int32) (l2 : Int32), f_X7_tell_L25 post (f_X7_tell_L10 post n10) n25 S bc bs l0 l1 l2 → ∀ (H : Heap) (locs : List Loc) (ls : Array Slot) (cells slots : Nat), p_H D cy S A s H locs → lv_has ls 3 [(0, .ref l0), (1, .int l1), (2, .int l2)] → cells + bc ≤ mc ∧ slots + bs ≤ ms → W p l e (rm_X7_tell mc ms) s m [.ref a0].toArray below meth c H locs cells slots (MQ below (va_Qi post (p_Post D cy A) A) [.ref a0].toArray s mc ms A) (F0 m 25 ls []) := by
          intro n25
          induction n25 with
          | zero => intro S bc bs l0 l1 l2 hf; exact hf.elim
          | succ n25 ih25 =>
            intro S bc bs l0 l1 l2 hf H locs ls cells slots hH hl hB
            have hJ60 : ∀ (S : PS) (bc bs : Nat) (l0 : Nat) (l1 : Int32), f_X7_tell_J60 post (f_X7_tell_L10 post n10) S bc bs l0 l1 → ∀ (H : Heap) (locs : List Loc) (ls : Array Slot) (cells slots : Nat), p_H D cy S A s H locs → lv_has ls 3 [(0, .ref l0), (1, .int l1)] → cells + bc ≤ mc ∧ slots + bs ≤ ms → W p l e (rm_X7_tell mc ms) s m [.ref a0].toArray below meth c H locs cells slots (MQ below (va_Qi post (p_Post D cy A) A) [.ref a0].toArray s mc ms A) (F0 m 60 ls []) := by
              intro S bc bs l0 l1 hf H locs ls cells slots hH hl hB
              refine lv_iinc (v := l1 + 1) (lv' := [(1, .int (l1 + 1)), (0, .ref l0)]) hx hb dX7_tell_60 hl (k := 1) rfl rfl (by decide) rfl (fun ls hl => ?_)
              refine lv_goto (tgt := 10) hx hb dX7_tell_63 (by decide) ?_
              exact ih10 S bc bs l0 (l1 + 1) hf H locs ls cells slots hH (lv_sub hl [1, 0] rfl) hB
            have hJ54 : ∀ (S : PS) (bc bs : Nat) (l0 : Nat) (l1 : Int32) (l2 : Int32), f_X7_tell_J54 post (f_X7_tell_L25 post (f_X7_tell_L10 post n10) n25) S bc bs l0 l1 l2 → ∀ (H : Heap) (locs : List Loc) (ls : Array Slot) (cells slots : Nat), p_H D cy S A s H locs → lv_has ls 3 [(0, .ref l0), (1, .int l1), (2, .int l2)] → cells + bc ≤ mc ∧ slots + bs ≤ ms → W p l e (rm_X7_tell mc ms) s m [.ref a0].toArray below meth c H locs cells slots (MQ below (va_Qi post (p_Post D cy A) A) [.ref a0].toArray s mc ms A) (F0 m 54 ls []) := by
              intro S bc bs l0 l1 l2 hf H locs ls cells slots hH hl hB
              refine lv_iinc (v := l2 + 1) (lv' := [(2, .int (l2 + 1)), (0, .ref l0), (1, .int l1)]) hx hb dX7_tell_54 hl (k := 2) rfl rfl (by decide) rfl (fun ls hl => ?_)
              refine lv_goto (tgt := 25) hx hb dX7_tell_57 (by decide) ?_
              exact ih25 S bc bs l0 l1 (l2 + 1) hf H locs ls cells slots hH (lv_sub hl [1, 2, 0] rfl) hB
            refine lv_iload_n hx hb dX7_tell_25 rfl (lv_at hl 2 rfl) ?_
            refine lv_aload_n hx hb dX7_tell_26 rfl (lv_at hl 0 rfl) ?_
            refine q_getR (T := TX7) (N := 12) X hH hf iw_X7 rfl (by decide) tw_253 (fun _ h => h) dX7_tell_27 (fun v1 hf => ?_)
            refine q_getIN (T := TX6) (N := 6) X hH hf iw_X6 rfl (by decide) (List.mem_of_getElem? (i := 0) rfl) (fun _ h => h) dX7_tell_30 (fun v2 hf => ?_)
            refine lv_icmp_ge (tgt := 60) hx hb dX7_tell_33 (by decide) (fun c3 => ?_) (fun c3 => ?_)
            · have hf := (if_pos c3).mp hf
              exact hJ60 S bc bs l0 l1 hf H locs ls cells slots hH (lv_sub hl [0, 1] rfl) hB
            · have hf := (if_neg c3).mp hf
              refine lv_aload_n hx hb dX7_tell_36 rfl (lv_at hl 0 rfl) ?_
              refine q_getR (T := TX7) (N := 12) X hH hf iw_X7 rfl (by decide) tw_253 (fun _ h => h) dX7_tell_37 (fun v4 hf => ?_)
              refine lv_iload_n hx hb dX7_tell_40 rfl (lv_at hl 1 rfl) ?_
              refine lv_iload_n hx hb dX7_tell_41 rfl (lv_at hl 2 rfl) ?_
              obtain ⟨hb1, hb2, hf⟩ := hf
              refine q_backI0 X hH (q_runV [.int l1, .int l2] [] X hH hl (c_X6_tie l D cy G X.2.2.2.1 S v4 l1 l2 _ _ hf) mf_X6_tie mv_X6_tie tw_722 ⟨Nat.le_of_ble_eq_true rfl, Nat.le_of_ble_eq_true rfl⟩ hb1 hb2 (T := TX6) (N := 6) rfl rfl (Nat.le_of_ble_eq_true rfl) dX7_tell_42 ⟨Nat.le_trans (Nat.le_add_right _ _) hB.1, Nat.le_trans (Nat.le_add_right _ _) hB.2⟩) (fun v6 S5 hf H locs hH => ?_)
              refine lv_if_le (tgt := 54) hx hb dX7_tell_45 (by decide) (fun c7 => ?_) (fun c7 => ?_)
              · have hf := (if_pos c7).mp hf
                exact hJ54 S5 bc bs l0 l1 l2 hf H locs ls cells slots hH hl hB
              · have hf := (if_neg c7).mp hf
                refine lv_aload_n hx hb dX7_tell_48 rfl (lv_at hl 0 rfl) ?_
                refine lv_iload_n hx hb dX7_tell_49 rfl (lv_at hl 1 rfl) ?_
                refine lv_iload_n hx hb dX7_tell_50 rfl (lv_at hl 2 rfl) ?_
                obtain ⟨hb1, hb2, hf⟩ := hf
                obtain ⟨mc9, ms9, hm1, hs1, hf⟩ := hf
                refine q_backVB X hH hB hm1 hs1 (q_runV [.int l1, .int l2] [] X hH hl (c_X7_writeBond l D cy G X.2.2.2.1 hGC dT dO hGT hGU S5 l0 l1 l2 mc9 ms9 _ _ hf) mf_X7_writeBond mv_X7_writeBond tw_723 ⟨Nat.le_of_ble_eq_true rfl, Nat.le_of_ble_eq_true rfl⟩ hb1 hb2 (T := TX7) (N := 12) rfl rfl (Nat.le_of_ble_eq_true rfl) dX7_tell_51 ⟨Nat.le_trans (Nat.add_le_add_left hm1 _) hB.1, Nat.le_trans (Nat.add_le_add_left hs1 _) hB.2⟩) (fun S8 hf H locs cells slots hH hB => ?_)
                exact hJ54 S8 (bc - mc9) (bs - ms9) l0 l1 l2 hf H locs ls cells slots hH hl hB
        refine lv_iload_n hx hb dX7_tell_10 rfl (lv_at hl 1 rfl) ?_
        refine lv_aload_n hx hb dX7_tell_11 rfl (lv_at hl 0 rfl) ?_
        refine q_getR (T := TX7) (N := 12) X hH hf iw_X7 rfl (by decide) tw_253 (fun _ h => h) dX7_tell_12 (fun v1 hf => ?_)
        refine q_getIN (T := TX6) (N := 6) X hH hf iw_X6 rfl (by decide) (List.mem_of_getElem? (i := 0) rfl) (fun _ h => h) dX7_tell_15 (fun v2 hf => ?_)
        refine lv_icmp_ge (tgt := 66) hx hb dX7_tell_18 (by decide) (fun c3 => ?_) (fun c3 => ?_)
        · have hf := (if_pos c3).mp hf
          exact hJ66 S bc bs l0 hf H locs ls cells slots hH (lv_sub hl [0] rfl) hB
        · have hf := (if_neg c3).mp hf
          refine lv_iload_n hx hb dX7_tell_21 rfl (lv_at hl 1 rfl) ?_
          refine lv_iconst (v := 1) hx hb dX7_tell_22 (by decide) ?_
          refine lv_iadd hx hb dX7_tell_23 ?_
          refine lv_istore_n (lv' := [(2, .int (l1 + 1)), (0, .ref l0), (1, .int l1)]) hx hb dX7_tell_24 rfl hl (by decide) rfl (fun ls hl => ?_)
          exact hL25 4096 S bc bs l0 l1 (l1 + 1) hf H locs ls cells slots hH (lv_sub hl [1, 2, 0] rfl) hB
    refine lv_aload_n hx hb dX7_tell_0 rfl (lv_at hl 0 rfl) ?_
    refine q_getR (T := TX7) (N := 12) X hH hf iw_X7 rfl (by decide) tw_262 (fun _ h => h) dX7_tell_1 (fun v1 hf => ?_)
    refine lv_iconst (v := 0) hx hb dX7_tell_4 (by decide) ?_
    obtain ⟨hb1, hb2, hf⟩ := hf
    obtain ⟨mc3, ms3, hm1, hs1, hf⟩ := hf
    refine q_backVB X hH hB hm1 hs1 (q_runV [.int 0] [] X hH hl (c_J4_setLength_d00df l D cy G X.2.2.2.1 hGU S v1 0 mc3 ms3 _ _ hf) mf_J4_setLength_d00df mv_J4_setLength_d00df tw_666 ⟨Nat.le_of_ble_eq_true rfl, Nat.le_of_ble_eq_true rfl⟩ hb1 hb2 (T := TJ4) (N := 4) rfl rfl (Nat.le_of_ble_eq_true rfl) dX7_tell_5 ⟨Nat.le_trans (Nat.add_le_add_left hm1 _) hB.1, Nat.le_trans (Nat.add_le_add_left hs1 _) hB.2⟩) (fun S2 hf H locs cells slots hH hB => ?_)
    refine lv_iconst (v := 0) hx hb dX7_tell_8 (by decide) ?_
    refine lv_istore_n (lv' := [(1, .int 0), (0, .ref a0)]) hx hb dX7_tell_9 rfl hl (by decide) rfl (fun ls hl => ?_)
    exact hL10 4096 S2 (bc - mc3) (bs - ms3) a0 0 hf H locs ls cells slots hH (lv_sub hl [1, 0] rfl) hB
  exact main s.heap [] ls 0 0 mc ms hf hH hl ⟨by omega, by omega⟩
