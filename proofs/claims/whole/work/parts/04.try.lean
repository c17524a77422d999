def f_X8_in (S : PS) (a0 : Int32) (a1 : Int32) (a2 : Int32) (post : Int32 → PS → Prop) : Prop :=
  if a0 < a1 then
    nZ .boolean 0 (post 0 S)
  else
    if a2 < a0 then
      nZ .boolean 0 (post 0 S)
    else
      nZ .boolean 1 (post 1 S)
abbrev rm_X8_in : Room := { frames := 0, cells := 0, slots := 0, locals := 0 }
set_option maxHeartbeats 4000000 in
set_option maxRecDepth 100000 in
theorem c_X8_in (l : Launch) (D : va_G) (cy : Nat → ClassId) (G : p_GT) (hG : p_ok G) (S : PS) (a0 : Int32) (a1 : Int32) (a2 : Int32) (post : Int32 → PS → Prop) (sz : Nat) (hf : f_X8_in S a0 a1 a2 post) : p_Mi l D cy G S sz yX8_in (Cond.code yX8_in cX8_in 3 (some .boolean) :: wG) rm_X8_in [.int a0, .int a1, .int a2] 0 0 post := by
  refine q_start hG (Qc := fun A => va_Qi post (p_Post D cy A) A) mf_X8_in (Nat.le_of_ble_eq_true rfl) (own := RX8) rfl ?_
  intro p e s m below meth c A X hr hlk hnm ls hl hH
  have hx := X.1.1
  have hb := X.1.2.1
  replace hl : lv_has ls 3 [(0, .int a0), (1, .int a1), (2, .int a2)] := hl
  obtain ⟨H, hHe⟩ : ∃ H, H = s.heap := ⟨_, rfl⟩
  obtain ⟨locs, hlo⟩ : ∃ locs : List Loc, locs = [] := ⟨_, rfl⟩
  rw [← hHe, ← hlo] at hH
  show W p l e rm_X8_in s m [.int a0, .int a1, .int a2].toArray below meth c s.heap [] 0 0 _ _
  rw [← hHe, ← hlo]
  refine lv_iload_n hx hb dX8_in_0 rfl (lv_at hl 0 rfl) ?_
  refine lv_iload_n hx hb dX8_in_1 rfl (lv_at hl 1 rfl) ?_
  refine lv_icmp_lt (tgt := 14) hx hb dX8_in_2 (by decide) (fun c1 => ?_) (fun c1 => ?_)
  · have hf := (if_pos c1).mp hf
    refine lv_iconst (v := 0) hx hb dX8_in_14 (by decide) ?_
    exact q_retZ X hH hr hlk hf (Nat.zero_le _) (Nat.zero_le _) dX8_in_15
  · have hf := (if_neg c1).mp hf
    refine lv_iload_n hx hb dX8_in_5 rfl (lv_at hl 0 rfl) ?_
    refine lv_iload_n hx hb dX8_in_6 rfl (lv_at hl 2 rfl) ?_
    refine lv_icmp_gt (tgt := 14) hx hb dX8_in_7 (by decide) (fun c2 => ?_) (fun c2 => ?_)
    · have hf := (if_pos c2).mp hf
      refine lv_iconst (v := 0) hx hb dX8_in_14 (by decide) ?_
      exact q_retZ X hH hr hlk hf (Nat.zero_le _) (Nat.zero_le _) dX8_in_15
    · have hf := (if_neg c2).mp hf
      refine lv_iconst (v := 1) hx hb dX8_in_10 (by decide) ?_
      refine lv_goto (tgt := 15) hx hb dX8_in_11 (by decide) ?_
      exact q_retZ X hH hr hlk hf (Nat.zero_le _) (Nat.zero_le _) dX8_in_15
def f_X8_holds (S : PS) (a0 : Int32) (a1 : Int32) (post : Int32 → PS → Prop) : Prop :=
  if ((a0 >>> (a1 &&& 31)) &&& 1) = 1 then
    nZ .boolean 1 (post 1 S)
  else
    nZ .boolean 0 (post 0 S)
abbrev rm_X8_holds : Room := { frames := 0, cells := 0, slots := 0, locals := 0 }
set_option maxHeartbeats 4000000 in
set_option maxRecDepth 100000 in
theorem c_X8_holds (l : Launch) (D : va_G) (cy : Nat → ClassId) (G : p_GT) (hG : p_ok G) (S : PS) (a0 : Int32) (a1 : Int32) (post : Int32 → PS → Prop) (sz : Nat) (hf : f_X8_holds S a0 a1 post) : p_Mi l D cy G S sz yX8_holds (Cond.code yX8_holds cX8_holds 2 (some .boolean) :: wG) rm_X8_holds [.int a0, .int a1] 0 0 post := by
  refine q_start hG (Qc := fun A => va_Qi post (p_Post D cy A) A) mf_X8_holds (Nat.le_of_ble_eq_true rfl) (own := RX8) rfl ?_
  intro p e s m below meth c A X hr hlk hnm ls hl hH
  have hx := X.1.1
  have hb := X.1.2.1
  replace hl : lv_has ls 2 [(0, .int a0), (1, .int a1)] := hl
  obtain ⟨H, hHe⟩ : ∃ H, H = s.heap := ⟨_, rfl⟩
  obtain ⟨locs, hlo⟩ : ∃ locs : List Loc, locs = [] := ⟨_, rfl⟩
  rw [← hHe, ← hlo] at hH
  show W p l e rm_X8_holds s m [.int a0, .int a1].toArray below meth c s.heap [] 0 0 _ _
  rw [← hHe, ← hlo]
  refine lv_iload_n hx hb dX8_holds_0 rfl (lv_at hl 0 rfl) ?_
  refine lv_iload_n hx hb dX8_holds_1 rfl (lv_at hl 1 rfl) ?_
  refine lv_ishr hx hb dX8_holds_2 ?_
  refine lv_iconst (v := 1) hx hb dX8_holds_3 (by decide) ?_
  refine lv_iand hx hb dX8_holds_4 ?_
  refine lv_iconst (v := 1) hx hb dX8_holds_5 (by decide) ?_
  refine lv_icmp_ne (tgt := 13) hx hb dX8_holds_6 (by decide) (fun c1 => ?_) (fun c1 => ?_)
  · have hf := (if_neg c1).mp hf
    refine lv_iconst (v := 0) hx hb dX8_holds_13 (by decide) ?_
    exact q_retZ X hH hr hlk hf (Nat.zero_le _) (Nat.zero_le _) dX8_holds_14
  · have hf := (if_pos c1).mp hf
    refine lv_iconst (v := 1) hx hb dX8_holds_9 (by decide) ?_
    refine lv_goto (tgt := 14) hx hb dX8_holds_10 (by decide) ?_
    exact q_retZ X hH hr hlk hf (Nat.zero_le _) (Nat.zero_le _) dX8_holds_14
def f_X8_w (S : PS) (a0 : Nat) (a1 : Int32) (a2 : Int32) (post : Int32 → PS → Prop) : Prop :=
  gR S a0 12 1 fun v1 => (
  aI S v1 0 ((13 + (9 * a1)) + a2) fun v2 => (
  post v2 S))
abbrev rm_X8_w : Room := { frames := 0, cells := 0, slots := 0, locals := 0 }
set_option maxHeartbeats 4000000 in
set_option maxRecDepth 100000 in
theorem c_X8_w (l : Launch) (D : va_G) (cy : Nat → ClassId) (G : p_GT) (hG : p_ok G) (S : PS) (a0 : Nat) (a1 : Int32) (a2 : Int32) (post : Int32 → PS → Prop) (sz : Nat) (hf : f_X8_w S a0 a1 a2 post) : p_Mi l D cy G S sz yX8_w (Cond.code yX8_w cX8_w 3 (some .int) :: wG) rm_X8_w [.ref a0, .int a1, .int a2] 0 0 post := by
  refine q_start hG (Qc := fun A => va_Qi post (p_Post D cy A) A) mf_X8_w (Nat.le_of_ble_eq_true rfl) (own := RX8) rfl ?_
  intro p e s m below meth c A X hr hlk hnm ls hl hH
  have hx := X.1.1
  have hb := X.1.2.1
  replace hl : lv_has ls 3 [(0, .ref a0), (1, .int a1), (2, .int a2)] := hl
  obtain ⟨H, hHe⟩ : ∃ H, H = s.heap := ⟨_, rfl⟩
  obtain ⟨locs, hlo⟩ : ∃ locs : List Loc, locs = [] := ⟨_, rfl⟩
  rw [← hHe, ← hlo] at hH
  show W p l e rm_X8_w s m [.ref a0, .int a1, .int a2].toArray below meth c s.heap [] 0 0 _ _
  rw [← hHe, ← hlo]
  refine lv_aload_n hx hb dX8_w_0 rfl (lv_at hl 0 rfl) ?_
  refine q_getR (T := TX8) (N := 25) X hH hf iw_X8 rfl (by decide) tw_1610 (fun _ h => h) dX8_w_1 (fun v1 hf => ?_)
  refine lv_bipush (v := 13) hx hb dX8_w_4 (by decide) ?_
  refine lv_bipush (v := 9) hx hb dX8_w_6 (by decide) ?_
  refine lv_iload_n hx hb dX8_w_8 rfl (lv_at hl 1 rfl) ?_
  refine lv_imul hx hb dX8_w_9 ?_
  refine lv_iadd hx hb dX8_w_10 ?_
  refine lv_iload_n hx hb dX8_w_11 rfl (lv_at hl 2 rfl) ?_
  refine lv_iadd hx hb dX8_w_12 ?_
  refine q_iald X hH hf dX8_w_13 (fun v2 hf => ?_)
  exact q_retI X hH hr hlk hf (Nat.zero_le _) (Nat.zero_le _) dX8_w_14
def f_X8_isHouse (S : PS) (a0 : Nat) (a1 : Int32) (post : Int32 → PS → Prop) : Prop :=
  gR S a0 12 1 fun v1 => (
  aI S v1 0 0 fun v2 => (
  f_X8_in S a1 0 (v2 - 1) fun v4 S3 => (
  nZ .boolean v4 (post v4 S3))))
abbrev rm_X8_isHouse : Room := { frames := 1, cells := 0, slots := 0, locals := 22 }
set_option maxHeartbeats 4000000 in
set_option maxRecDepth 100000 in
theorem c_X8_isHouse (l : Launch) (D : va_G) (cy : Nat → ClassId) (G : p_GT) (hG : p_ok G) (S : PS) (a0 : Nat) (a1 : Int32) (post : Int32 → PS → Prop) (sz : Nat) (hf : f_X8_isHouse S a0 a1 post) : p_Mi l D cy G S sz yX8_isHouse (Cond.code yX8_isHouse cX8_isHouse 2 (some .boolean) :: wG) rm_X8_isHouse [.ref a0, .int a1] 0 0 post := by
  refine q_start hG (Qc := fun A => va_Qi post (p_Post D cy A) A) mf_X8_isHouse (Nat.le_of_ble_eq_true rfl) (own := RX8) rfl ?_
  intro p e s m below meth c A X hr hlk hnm ls hl hH
  have hx := X.1.1
  have hb := X.1.2.1
  replace hl : lv_has ls 2 [(0, .ref a0), (1, .int a1)] := hl
  obtain ⟨H, hHe⟩ : ∃ H, H = s.heap := ⟨_, rfl⟩
  obtain ⟨locs, hlo⟩ : ∃ locs : List Loc, locs = [] := ⟨_, rfl⟩
  rw [← hHe, ← hlo] at hH
  show W p l e rm_X8_isHouse s m [.ref a0, .int a1].toArray below meth c s.heap [] 0 0 _ _
  rw [← hHe, ← hlo]
  refine lv_iload_n hx hb dX8_isHouse_0 rfl (lv_at hl 1 rfl) ?_
  refine lv_iconst (v := 0) hx hb dX8_isHouse_1 (by decide) ?_
  refine lv_aload_n hx hb dX8_isHouse_2 rfl (lv_at hl 0 rfl) ?_
  refine q_getR (T := TX8) (N := 25) X hH hf iw_X8 rfl (by decide) tw_1610 (fun _ h => h) dX8_isHouse_3 (fun v1 hf => ?_)
  refine lv_iconst (v := 0) hx hb dX8_isHouse_6 (by decide) ?_
  refine q_iald X hH hf dX8_isHouse_7 (fun v2 hf => ?_)
  refine lv_iconst (v := 1) hx hb dX8_isHouse_8 (by decide) ?_
  refine lv_isub hx hb dX8_isHouse_9 ?_
  refine q_backI0 X hH (q_runS [.int a1, .int 0, .int (v2 - 1)] [] X hH hl (c_X8_in l D cy G X.2.2.2.1 S a1 0 (v2 - 1) _ _ hf) mf_X8_in tw_1695 tw_1694 ⟨Nat.le_of_ble_eq_true rfl, Nat.le_of_ble_eq_true rfl⟩ rfl (Nat.le_of_ble_eq_true rfl) dX8_isHouse_10 ⟨Nat.le_of_ble_eq_true rfl, Nat.le_of_ble_eq_true rfl⟩) (fun v4 S3 hf H locs hH => ?_)
  exact q_retZ X hH hr hlk hf (Nat.zero_le _) (Nat.zero_le _) dX8_isHouse_13
def f_X8_tie_J69 (post : Int32 → PS → Prop) (g5 : PS → Nat → Int32 → Int32 → Int32 → Int32 → Prop) (S : PS) (l0 : Nat) (l1 : Int32) (l2 : Int32) (l3 : Int32) (l4 : Int32) : Prop :=
  g5 S l0 l1 l2 l3 (l4 + 1)
def f_X8_tie_J61 (post : Int32 → PS → Prop) (g19 : PS → Nat → Int32 → Int32 → Int32 → Int32 → Int32 → Prop) (S : PS) (l0 : Nat) (l1 : Int32) (l2 : Int32) (l4 : Int32) (l5 : Int32) (t0 : Int32) (t1 : Int32) : Prop :=
  g19 S l0 l1 l2 (t1 + t0) l4 (l5 + 1)
def f_X8_tie_J60 (post : Int32 → PS → Prop) (g19 : PS → Nat → Int32 → Int32 → Int32 → Int32 → Int32 → Prop) (S : PS) (l0 : Nat) (l1 : Int32) (l2 : Int32) (l4 : Int32) (l5 : Int32) (t0 : Int32) : Prop :=
  f_X8_tie_J61 post g19 S l0 l1 l2 l4 l5 0 t0
def f_X8_tie_L19 (post : Int32 → PS → Prop) (g5 : PS → Nat → Int32 → Int32 → Int32 → Int32 → Prop) : Nat → PS → Nat → Int32 → Int32 → Int32 → Int32 → Int32 → Prop
  | 0, _, _, _, _, _, _, _ => False
  | n + 1, S, l0, l1, l2, l3, l4, l5 =>
  gR S l0 12 1 fun v1 => (
  aI S v1 0 0 fun v2 => (
  if v2 ≤ l5 then
    f_X8_tie_J69 post g5 S l0 l1 l2 l3 l4
  else
    f_X8_holds S l1 l4 fun v5 S4 => (
    if v5 = 0 then
      f_X8_tie_J60 post (f_X8_tie_L19 post g5 n) S4 l0 l1 l2 l4 l5 l3
    else
      f_X8_holds S4 l2 l5 fun v8 S7 => (
      if v8 = 0 then
        f_X8_tie_J60 post (f_X8_tie_L19 post g5 n) S7 l0 l1 l2 l4 l5 l3
      else
        isO S7 l0 12 (
        f_X8_w S7 l0 l4 l5 fun v11 S10 => (
        f_X8_tie_J61 post (f_X8_tie_L19 post g5 n) S10 l0 l1 l2 l4 l5 v11 l3))))))
def f_X8_tie_L5 (post : Int32 → PS → Prop) : Nat → PS → Nat → Int32 → Int32 → Int32 → Int32 → Prop
  | 0, _, _, _, _, _, _ => False
  | n + 1, S, l0, l1, l2, l3, l4 =>
  gR S l0 12 1 fun v1 => (
  aI S v1 0 0 fun v2 => (
  if v2 ≤ l4 then
    post l3 S
  else
    f_X8_tie_L19 post (f_X8_tie_L5 post n) 4096 S l0 l1 l2 l3 l4 0))
def f_X8_tie (S : PS) (a0 : Nat) (a1 : Int32) (a2 : Int32) (post : Int32 → PS → Prop) : Prop :=
  f_X8_tie_L5 post 4096 S a0 a1 a2 0 0
abbrev rm_X8_tie : Room := { frames := 1, cells := 0, slots := 0, locals := 22 }
set_option maxHeartbeats 4000000 in
set_option maxRecDepth 100000 in
theorem c_X8_tie (l : Launch) (D : va_G) (cy : Nat → ClassId) (G : p_GT) (hG : p_ok G) (S : PS) (a0 : Nat) (a1 : Int32) (a2 : Int32) (post : Int32 → PS → Prop) (sz : Nat) (hf : f_X8_tie S a0 a1 a2 post) : p_Mi l D cy G S sz yX8_tie (Cond.code yX8_tie cX8_tie 6 (some .int) :: wG) rm_X8_tie [.ref a0, .int a1, .int a2] 0 0 post := by
  refine q_start hG (Qc := fun A => va_Qi post (p_Post D cy A) A) mf_X8_tie (Nat.le_of_ble_eq_true rfl) (own := RX8) rfl ?_
  intro p e s m below meth c A X hr hlk hnm ls hl hH
  have hx := X.1.1
  have hb := X.1.2.1
  replace hl : lv_has ls 6 [(0, .ref a0), (1, .int a1), (2, .int a2)] := hl
  obtain ⟨H, hHe⟩ : ∃ H, H = s.heap := ⟨_, rfl⟩
  obtain ⟨locs, hlo⟩ : ∃ locs : List Loc, locs = [] := ⟨_, rfl⟩
  rw [← hHe, ← hlo] at hH
  show W p l e rm_X8_tie s m [.ref a0, .int a1, .int a2].toArray below meth c s.heap [] 0 0 _ _
  rw [← hHe, ← hlo]
  have hL5 : ∀ (n5 : Nat) (S : PS) (l0 : Nat) (l1 : Int32) (l2 : Int32) (l3 : Int32) (l4 : Int32), f_X8_tie_L5 post n5 S l0 l1 l2 l3 l4 → ∀ (H : Heap) (locs : List Loc) (ls : Array Slot), p_H D cy S A s H locs → lv_has ls 6 [(0, .ref l0), (1, .int l1), (2, .int l2), (3, .int l3), (4, .int l4)] → W p l e rm_X8_tie s m [.ref a0, .int a1, .int a2].toArray below meth c H locs 0 0 (MQ below (va_Qi post (p_Post D cy A) A) [.ref a0, .int a1, .int a2].toArray s 0 0 A) (F0 m 5 ls []) := by
    intro n5
    induction n5 with
    | zero => intro S l0 l1 l2 l3 l4 hf; exact hf.elim
    | succ n5 ih5 =>
      intro S l0 l1 l2 l3 l4 hf H locs ls hH hl
      have hL19 : ∀ (n19 : Nat) (S : PS) (l0 : Nat) (l1 : Int32) (l2 : Int32) (l3 : Int32) (l4 : Int32) (l5 : Int32), f_X8_tie_L19 post (f_X8_tie_L5 post n5) n19 S l0 l1 l2 l3 l4 l5 → ∀ (H : Heap) (locs : List Loc) (ls : Array Slot), p_H D cy S A s H locs → lv_has ls 6 [(0, .ref l0), (1, .int l1), (2, .int l2), (3, .int l3), (4, .int l4), (5, .int l5)] → W p l e rm_X8_tie s m [.ref a0, .int a1, .int a2].toArray below meth c H locs 0 0 (MQ below (va_Qi post (p_Post D cy A) A) [.ref a0, .int a1, .int a2].toArray s 0 0 A) (F0 m 19 ls []) := by
        intro n19
        induction n19 with
        | zero => intro S l0 l1 l2 l3 l4 l5 hf; exact hf.elim
        | succ n19 ih19 =>
          intro S l0 l1 l2 l3 l4 l5 hf H locs ls hH hl
          have hJ69 : ∀ (S : PS) (l0 : Nat) (l1 : Int32) (l2 : Int32) (l3 : Int32) (l4 : Int32), f_X8_tie_J69 post (f_X8_tie_L5 post n5) S l0 l1 l2 l3 l4 → ∀ (H : Heap) (locs : List Loc) (ls : Array Slot), p_H D cy S A s H locs → lv_has ls 6 [(0, .ref l0), (1, .int l1), (2, .int l2), (3, .int l3), (4, .int l4)] → W p l e rm_X8_tie s m [.ref a0, .int a1, .int a2].toArray below meth c H locs 0 0 (MQ below (va_Qi post (p_Post D cy A) A) [.ref a0, .int a1, .int a2].toArray s 0 0 A) (F0 m 69 ls []) := by
            intro S l0 l1 l2 l3 l4 hf H locs ls hH hl
            refine lv_iinc (v := l4 + 1) (lv' := [(4, .int (l4 + 1)), (0, .ref l0), (1, .int l1), (2, .int l2), (3, .int l3)]) hx hb dX8_tie_69 hl (k := 4) rfl rfl (by decide) rfl (fun ls hl => ?_)
            refine lv_goto (tgt := 5) hx hb dX8_tie_72 (by decide) ?_
            exact ih5 S l0 l1 l2 l3 (l4 + 1) hf H locs ls hH (lv_sub hl [1, 2, 3, 4, 0] rfl)
          have hJ61 : ∀ (S : PS) (l0 : Nat) (l1 : Int32) (l2 : Int32) (l4 : Int32) (l5 : Int32) (t0 : Int32) (t1 : Int32), f_X8_tie_J61 post (f_X8_tie_L19 post (f_X8_tie_L5 post n5) n19) S l0 l1 l2 l4 l5 t0 t1 → ∀ (H : Heap) (locs : List Loc) (ls : Array Slot), p_H D cy S A s H locs → lv_has ls 6 [(0, .ref l0), (1, .int l1), (2, .int l2), (4, .int l4), (5, .int l5)] → W p l e rm_X8_tie s m [.ref a0, .int a1, .int a2].toArray below meth c H locs 0 0 (MQ below (va_Qi post (p_Post D cy A) A) [.ref a0, .int a1, .int a2].toArray s 0 0 A) (F0 m 61 ls [.int t0, .int t1]) := by
            intro S l0 l1 l2 l4 l5 t0 t1 hf H locs ls hH hl
            refine lv_iadd hx hb dX8_tie_61 ?_
            refine lv_istore_n (lv' := [(3, .int (t1 + t0)), (0, .ref l0), (1, .int l1), (2, .int l2), (4, .int l4), (5, .int l5)]) hx hb dX8_tie_62 rfl hl (by decide) rfl (fun ls hl => ?_)
            refine lv_iinc (v := l5 + 1) (lv' := [(5, .int (l5 + 1)), (3, .int (t1 + t0)), (0, .ref l0), (1, .int l1), (2, .int l2), (4, .int l4)]) hx hb dX8_tie_63 hl (k := 5) rfl rfl (by decide) rfl (fun ls hl => ?_)
            refine lv_goto (tgt := 19) hx hb dX8_tie_66 (by decide) ?_
            exact ih19 S l0 l1 l2 (t1 + t0) l4 (l5 + 1) hf H locs ls hH (lv_sub hl [2, 3, 4, 1, 5, 0] rfl)
          have hJ60 : ∀ (S : PS) (l0 : Nat) (l1 : Int32) (l2 : Int32) (l4 : Int32) (l5 : Int32) (t0 : Int32), f_X8_tie_J60 post (f_X8_tie_L19 post (f_X8_tie_L5 post n5) n19) S l0 l1 l2 l4 l5 t0 → ∀ (H : Heap) (locs : List Loc) (ls : Array Slot), p_H D cy S A s H locs → lv_has ls 6 [(0, .ref l0), (1, .int l1), (2, .int l2), (4, .int l4), (5, .int l5)] → W p l e rm_X8_tie s m [.ref a0, .int a1, .int a2].toArray below meth c H locs 0 0 (MQ below (va_Qi post (p_Post D cy A) A) [.ref a0, .int a1, .int a2].toArray s 0 0 A) (F0 m 60 ls [.int t0]) := by
            intro S l0 l1 l2 l4 l5 t0 hf H locs ls hH hl
            refine lv_iconst (v := 0) hx hb dX8_tie_60 (by decide) ?_
            exact hJ61 S l0 l1 l2 l4 l5 0 t0 hf H locs ls hH hl
          refine lv_iload hx hb dX8_tie_19 (lv_at hl 5 rfl) ?_
          refine lv_aload_n hx hb dX8_tie_21 rfl (lv_at hl 0 rfl) ?_
          refine q_getR (T := TX8) (N := 25) X hH hf iw_X8 rfl (by decide) tw_1610 (fun _ h => h) dX8_tie_22 (fun v1 hf => ?_)
          refine lv_iconst (v := 0) hx hb dX8_tie_25 (by decide) ?_
          refine q_iald X hH hf dX8_tie_26 (fun v2 hf => ?_)
          refine lv_icmp_ge (tgt := 69) hx hb dX8_tie_27 (by decide) (fun c3 => ?_) (fun c3 => ?_)
          · have hf := (if_pos c3).mp hf
            exact hJ69 S l0 l1 l2 l3 l4 hf H locs ls hH (lv_sub hl [0, 1, 2, 3, 4] rfl)
          · have hf := (if_neg c3).mp hf
            refine lv_iload_n hx hb dX8_tie_30 rfl (lv_at hl 3 rfl) ?_
            refine lv_iload_n hx hb dX8_tie_31 rfl (lv_at hl 1 rfl) ?_
            refine lv_iload hx hb dX8_tie_32 (lv_at hl 4 rfl) ?_
            refine q_backI0 X hH (q_runS [.int l1, .int l4] [.int l3] X hH hl (c_X8_holds l D cy G X.2.2.2.1 S l1 l4 _ _ hf) mf_X8_holds tw_1810 tw_1809 ⟨Nat.le_of_ble_eq_true rfl, Nat.le_of_ble_eq_true rfl⟩ rfl (Nat.le_of_ble_eq_true rfl) dX8_tie_34 ⟨Nat.le_of_ble_eq_true rfl, Nat.le_of_ble_eq_true rfl⟩) (fun v5 S4 hf H locs hH => ?_)
            refine lv_if_eq (tgt := 60) hx hb dX8_tie_37 (by decide) (fun c6 => ?_) (fun c6 => ?_)
            · have hf := (if_pos c6).mp hf
              exact hJ60 S4 l0 l1 l2 l4 l5 l3 hf H locs ls hH (lv_sub hl [0, 1, 2, 4, 5] rfl)
            · have hf := (if_neg c6).mp hf
              refine lv_iload_n hx hb dX8_tie_40 rfl (lv_at hl 2 rfl) ?_
              refine lv_iload hx hb dX8_tie_41 (lv_at hl 5 rfl) ?_
              refine q_backI0 X hH (q_runS [.int l2, .int l5] [.int l3] X hH hl (c_X8_holds l D cy G X.2.2.2.1 S4 l2 l5 _ _ hf) mf_X8_holds tw_1810 tw_1809 ⟨Nat.le_of_ble_eq_true rfl, Nat.le_of_ble_eq_true rfl⟩ rfl (Nat.le_of_ble_eq_true rfl) dX8_tie_43 ⟨Nat.le_of_ble_eq_true rfl, Nat.le_of_ble_eq_true rfl⟩) (fun v8 S7 hf H locs hH => ?_)
              refine lv_if_eq (tgt := 60) hx hb dX8_tie_46 (by decide) (fun c9 => ?_) (fun c9 => ?_)
              · have hf := (if_pos c9).mp hf
                exact hJ60 S7 l0 l1 l2 l4 l5 l3 hf H locs ls hH (lv_sub hl [0, 1, 2, 4, 5] rfl)
              · have hf := (if_neg c9).mp hf
                refine lv_aload_n hx hb dX8_tie_49 rfl (lv_at hl 0 rfl) ?_
                refine lv_iload hx hb dX8_tie_50 (lv_at hl 4 rfl) ?_
                refine lv_iload hx hb dX8_tie_52 (lv_at hl 5 rfl) ?_
                obtain ⟨hb1, hb2, hf⟩ := hf
                refine q_backI0 X hH (q_runV [.int l4, .int l5] [.int l3] X hH hl (c_X8_w l D cy G X.2.2.2.1 S7 l0 l4 l5 _ _ hf) mf_X8_w mv_X8_w tw_1745 ⟨Nat.le_of_ble_eq_true rfl, Nat.le_of_ble_eq_true rfl⟩ hb1 hb2 (T := TX8) (N := 25) rfl rfl (Nat.le_of_ble_eq_true rfl) dX8_tie_54 ⟨Nat.le_of_ble_eq_true rfl, Nat.le_of_ble_eq_true rfl⟩) (fun v11 S10 hf H locs hH => ?_)
                refine lv_goto (tgt := 61) hx hb dX8_tie_57 (by decide) ?_
                exact hJ61 S10 l0 l1 l2 l4 l5 v11 l3 hf H locs ls hH (lv_sub hl [0, 1, 2, 4, 5] rfl)
      refine lv_iload hx hb dX8_tie_5 (lv_at hl 4 rfl) ?_
      refine lv_aload_n hx hb dX8_tie_7 rfl (lv_at hl 0 rfl) ?_
      refine q_getR (T := TX8) (N := 25) X hH hf iw_X8 rfl (by decide) tw_1610 (fun _ h => h) dX8_tie_8 (fun v1 hf => ?_)
      refine lv_iconst (v := 0) hx hb dX8_tie_11 (by decide) ?_
      refine q_iald X hH hf dX8_tie_12 (fun v2 hf => ?_)
      refine lv_icmp_ge (tgt := 75) hx hb dX8_tie_13 (by decide) (fun c3 => ?_) (fun c3 => ?_)
      · have hf := (if_pos c3).mp hf
        refine lv_iload_n hx hb dX8_tie_75 rfl (lv_at hl 3 rfl) ?_
        exact q_retI X hH hr hlk hf (Nat.zero_le _) (Nat.zero_le _) dX8_tie_76
      · have hf := (if_neg c3).mp hf
        refine lv_iconst (v := 0) hx hb dX8_tie_16 (by decide) ?_
        refine lv_istore (lv' := [(5, .int 0), (0, .ref l0), (1, .int l1), (2, .int l2), (3, .int l3), (4, .int l4)]) hx hb dX8_tie_17 hl (by decide) rfl (fun ls hl => ?_)
        exact hL19 4096 S l0 l1 l2 l3 l4 0 hf H locs ls hH (lv_sub hl [1, 2, 3, 4, 5, 0] rfl)
  refine lv_iconst (v := 0) hx hb dX8_tie_0 (by decide) ?_
  refine lv_istore_n (lv' := [(3, .int 0), (0, .ref a0), (1, .int a1), (2, .int a2)]) hx hb dX8_tie_1 rfl hl (by decide) rfl (fun ls hl => ?_)
  refine lv_iconst (v := 0) hx hb dX8_tie_2 (by decide) ?_
  refine lv_istore (lv' := [(4, .int 0), (3, .int 0), (0, .ref a0), (1, .int a1), (2, .int a2)]) hx hb dX8_tie_3 hl (by decide) rfl (fun ls hl => ?_)
  exact hL5 4096 S a0 a1 a2 0 0 hf H locs ls hH (lv_sub hl [2, 3, 4, 1, 0] rfl)
