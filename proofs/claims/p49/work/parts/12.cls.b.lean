-- X6_bondCount
def f_X6_bondCount_J26 (post : Int32 → PS → Prop) (S : PS) (l1 : Int32) : Prop :=
  (¬ (2 : Int32) = 0) ∧ (
  post (l1 / 2) S)
def f_X6_bondCount_L4 (post : Int32 → PS → Prop) : Nat → PS → Nat → Int32 → Int32 → Prop
  | 0, _, _, _, _ => False
  | n + 1, S, l0, l1, l2 =>
  gI S l0 10 1 fun v1 => (
  if v1 ≤ l2 then
    f_X6_bondCount_J26 post S l1
  else
    isO S l0 10 (
    f_X6_bondsOf S l0 l2 fun v4 S3 => (
    (f_X6_bondCount_L4 post n) S3 l0 (l1 + v4) (l2 + 1))))
def f_X6_bondCount (S : PS) (a0 : Nat) (post : Int32 → PS → Prop) : Prop :=
  f_X6_bondCount_L4 post 4096 S a0 0 0
abbrev rm_X6_bondCount : Room := { frames := 3, cells := 0, slots := 0, locals := 66 }
set_option maxHeartbeats 4000000 in
set_option maxRecDepth 100000 in
theorem c_X6_bondCount (l : Launch) (D : va_G) (cy : Nat → ClassId) (G : p_GT) (hG : p_ok G) (S : PS) (a0 : Nat) (post : Int32 → PS → Prop) (sz : Nat) (hf : f_X6_bondCount S a0 post) : p_Mi l D cy G S sz yX6_bondCount (Cond.code yX6_bondCount cX6_bondCount 3 (some .int) :: wG) rm_X6_bondCount [.ref a0] 0 0 post := by
  refine q_start hG (Qc := fun A => va_Qi post (p_Post D cy A) A) mf_X6_bondCount (Nat.le_of_ble_eq_true rfl) (own := RX6) rfl ?_
  intro p e s m below meth c A X hr hlk hnm ls hl hH
  have hx := X.1.1
  have hb := X.1.2.1
  replace hl : lv_has ls 3 [(0, .ref a0)] := hl
  obtain ⟨H, hHe⟩ : ∃ H, H = s.heap := ⟨_, rfl⟩
  obtain ⟨locs, hlo⟩ : ∃ locs : List Loc, locs = [] := ⟨_, rfl⟩
  rw [← hHe, ← hlo] at hH
  show W p l e rm_X6_bondCount s m [.ref a0].toArray below meth c s.heap [] 0 0 _ _
  rw [← hHe, ← hlo]
  have hL4 : ∀ (n4 : Nat) (S : PS) (l0 : Nat) (l1 : Int32) (l2 : Int32), f_X6_bondCount_L4 post n4 S l0 l1 l2 → ∀ (H : Heap) (locs : List Loc) (ls : Array Slot), p_H D cy S A s H locs → lv_has ls 3 [(0, .ref l0), (1, .int l1), (2, .int l2)] → W p l e rm_X6_bondCount s m [.ref a0].toArray below meth c H locs 0 0 (MQ below (va_Qi post (p_Post D cy A) A) [.ref a0].toArray s 0 0 A) (F0 m 4 ls []) := by
    intro n4
    induction n4 with
    | zero => intro S l0 l1 l2 hf; exact hf.elim
    | succ n4 ih4 =>
      intro S l0 l1 l2 hf H locs ls hH hl
      have hJ26 : ∀ (S : PS) (l1 : Int32), f_X6_bondCount_J26 post S l1 → ∀ (H : Heap) (locs : List Loc) (ls : Array Slot), p_H D cy S A s H locs → lv_has ls 3 [(1, .int l1)] → W p l e rm_X6_bondCount s m [.ref a0].toArray below meth c H locs 0 0 (MQ below (va_Qi post (p_Post D cy A) A) [.ref a0].toArray s 0 0 A) (F0 m 26 ls []) := by
        intro S l1 hf H locs ls hH hl
        refine lv_iload_n hx hb dX6_bondCount_26 rfl (lv_at hl 0 rfl) ?_
        refine lv_iconst (v := 2) hx hb dX6_bondCount_27 (by decide) ?_
        refine lv_idiv hx hb dX6_bondCount_28 hf.1 ?_
        have hf := hf.2
        exact q_retI X hH hr hlk hf (Nat.zero_le _) (Nat.zero_le _) dX6_bondCount_29
      refine lv_iload_n hx hb dX6_bondCount_4 rfl (lv_at hl 2 rfl) ?_
      refine lv_aload_n hx hb dX6_bondCount_5 rfl (lv_at hl 0 rfl) ?_
      refine q_getI (T := TX6) (N := 6) X hH hf iw_X6 rfl (by decide) tw_73 (fun _ h => h) dX6_bondCount_6 (fun v1 hf => ?_)
      refine lv_icmp_ge (tgt := 26) hx hb dX6_bondCount_9 (by decide) (fun c2 => ?_) (fun c2 => ?_)
      · have hf := (if_pos c2).mp hf
        exact hJ26 S l1 hf H locs ls hH (lv_sub hl [1] rfl)
      · have hf := (if_neg c2).mp hf
        refine lv_iload_n hx hb dX6_bondCount_12 rfl (lv_at hl 1 rfl) ?_
        refine lv_aload_n hx hb dX6_bondCount_13 rfl (lv_at hl 0 rfl) ?_
        refine lv_iload_n hx hb dX6_bondCount_14 rfl (lv_at hl 2 rfl) ?_
        obtain ⟨hb1, hb2, hf⟩ := hf
        refine q_backI0 X hH (q_runV [.int l2] [.int l1] X hH hl (c_X6_bondsOf l D cy G X.2.2.2.1 S l0 l2 _ _ hf) mf_X6_bondsOf mv_X6_bondsOf tw_843 ⟨Nat.le_of_ble_eq_true rfl, Nat.le_of_ble_eq_true rfl⟩ hb1 hb2 (T := TX6) (N := 6) rfl rfl (Nat.le_of_ble_eq_true rfl) dX6_bondCount_15 ⟨Nat.le_of_ble_eq_true rfl, Nat.le_of_ble_eq_true rfl⟩) (fun v4 S3 hf H locs hH => ?_)
        refine lv_iadd hx hb dX6_bondCount_18 ?_
        refine lv_istore_n (lv' := [(1, .int (l1 + v4)), (0, .ref l0), (2, .int l2)]) hx hb dX6_bondCount_19 rfl hl (by decide) rfl (fun ls hl => ?_)
        refine lv_iinc (v := l2 + 1) (lv' := [(2, .int (l2 + 1)), (1, .int (l1 + v4)), (0, .ref l0)]) hx hb dX6_bondCount_20 hl (k := 2) rfl rfl (by decide) rfl (fun ls hl => ?_)
        refine lv_goto (tgt := 4) hx hb dX6_bondCount_23 (by decide) ?_
        exact ih4 S3 l0 (l1 + v4) (l2 + 1) hf H locs ls hH (lv_sub hl [2, 1, 0] rfl)
  refine lv_iconst (v := 0) hx hb dX6_bondCount_0 (by decide) ?_
  refine lv_istore_n (lv' := [(1, .int 0), (0, .ref a0)]) hx hb dX6_bondCount_1 rfl hl (by decide) rfl (fun ls hl => ?_)
  refine lv_iconst (v := 0) hx hb dX6_bondCount_2 (by decide) ?_
  refine lv_istore_n (lv' := [(2, .int 0), (1, .int 0), (0, .ref a0)]) hx hb dX6_bondCount_3 rfl hl (by decide) rfl (fun ls hl => ?_)
  exact hL4 4096 S a0 0 0 hf H locs ls hH (lv_sub hl [2, 1, 0] rfl)
-- X6_lonelyCount
def f_X6_lonelyCount_J23 (post : Int32 → PS → Prop) (g4 : PS → Nat → Int32 → Int32 → Prop) (S : PS) (l0 : Nat) (l1 : Int32) (l2 : Int32) : Prop :=
  g4 S l0 l1 (l2 + 1)
def f_X6_lonelyCount_L4 (post : Int32 → PS → Prop) : Nat → PS → Nat → Int32 → Int32 → Prop
  | 0, _, _, _, _ => False
  | n + 1, S, l0, l1, l2 =>
  gI S l0 10 1 fun v1 => (
  if v1 ≤ l2 then
    post l1 S
  else
    isO S l0 10 (
    f_X6_bondsOf S l0 l2 fun v4 S3 => (
    if v4 = 0 then
      f_X6_lonelyCount_J23 post (f_X6_lonelyCount_L4 post n) S3 l0 (l1 + 1) l2
    else
      f_X6_lonelyCount_J23 post (f_X6_lonelyCount_L4 post n) S3 l0 l1 l2)))
def f_X6_lonelyCount (S : PS) (a0 : Nat) (post : Int32 → PS → Prop) : Prop :=
  f_X6_lonelyCount_L4 post 4096 S a0 0 0
abbrev rm_X6_lonelyCount : Room := { frames := 3, cells := 0, slots := 0, locals := 66 }
set_option maxHeartbeats 4000000 in
set_option maxRecDepth 100000 in
theorem c_X6_lonelyCount (l : Launch) (D : va_G) (cy : Nat → ClassId) (G : p_GT) (hG : p_ok G) (S : PS) (a0 : Nat) (post : Int32 → PS → Prop) (sz : Nat) (hf : f_X6_lonelyCount S a0 post) : p_Mi l D cy G S sz yX6_lonelyCount (Cond.code yX6_lonelyCount cX6_lonelyCount 3 (some .int) :: wG) rm_X6_lonelyCount [.ref a0] 0 0 post := by
  refine q_start hG (Qc := fun A => va_Qi post (p_Post D cy A) A) mf_X6_lonelyCount (Nat.le_of_ble_eq_true rfl) (own := RX6) rfl ?_
  intro p e s m below meth c A X hr hlk hnm ls hl hH
  have hx := X.1.1
  have hb := X.1.2.1
  replace hl : lv_has ls 3 [(0, .ref a0)] := hl
  obtain ⟨H, hHe⟩ : ∃ H, H = s.heap := ⟨_, rfl⟩
  obtain ⟨locs, hlo⟩ : ∃ locs : List Loc, locs = [] := ⟨_, rfl⟩
  rw [← hHe, ← hlo] at hH
  show W p l e rm_X6_lonelyCount s m [.ref a0].toArray below meth c s.heap [] 0 0 _ _
  rw [← hHe, ← hlo]
  have hL4 : ∀ (n4 : Nat) (S : PS) (l0 : Nat) (l1 : Int32) (l2 : Int32), f_X6_lonelyCount_L4 post n4 S l0 l1 l2 → ∀ (H : Heap) (locs : List Loc) (ls : Array Slot), p_H D cy S A s H locs → lv_has ls 3 [(0, .ref l0), (1, .int l1), (2, .int l2)] → W p l e rm_X6_lonelyCount s m [.ref a0].toArray below meth c H locs 0 0 (MQ below (va_Qi post (p_Post D cy A) A) [.ref a0].toArray s 0 0 A) (F0 m 4 ls []) := by
    intro n4
    induction n4 with
    | zero => intro S l0 l1 l2 hf; exact hf.elim
    | succ n4 ih4 =>
      intro S l0 l1 l2 hf H locs ls hH hl
      have hJ23 : ∀ (S : PS) (l0 : Nat) (l1 : Int32) (l2 : Int32), f_X6_lonelyCount_J23 post (f_X6_lonelyCount_L4 post n4) S l0 l1 l2 → ∀ (H : Heap) (locs : List Loc) (ls : Array Slot), p_H D cy S A s H locs → lv_has ls 3 [(0, .ref l0), (1, .int l1), (2, .int l2)] → W p l e rm_X6_lonelyCount s m [.ref a0].toArray below meth c H locs 0 0 (MQ below (va_Qi post (p_Post D cy A) A) [.ref a0].toArray s 0 0 A) (F0 m 23 ls []) := by
        intro S l0 l1 l2 hf H locs ls hH hl
        refine lv_iinc (v := l2 + 1) (lv' := [(2, .int (l2 + 1)), (0, .ref l0), (1, .int l1)]) hx hb dX6_lonelyCount_23 hl (k := 2) rfl rfl (by decide) rfl (fun ls hl => ?_)
        refine lv_goto (tgt := 4) hx hb dX6_lonelyCount_26 (by decide) ?_
        exact ih4 S l0 l1 (l2 + 1) hf H locs ls hH (lv_sub hl [1, 2, 0] rfl)
      refine lv_iload_n hx hb dX6_lonelyCount_4 rfl (lv_at hl 2 rfl) ?_
      refine lv_aload_n hx hb dX6_lonelyCount_5 rfl (lv_at hl 0 rfl) ?_
      refine q_getI (T := TX6) (N := 6) X hH hf iw_X6 rfl (by decide) tw_73 (fun _ h => h) dX6_lonelyCount_6 (fun v1 hf => ?_)
      refine lv_icmp_ge (tgt := 29) hx hb dX6_lonelyCount_9 (by decide) (fun c2 => ?_) (fun c2 => ?_)
      · have hf := (if_pos c2).mp hf
        refine lv_iload_n hx hb dX6_lonelyCount_29 rfl (lv_at hl 1 rfl) ?_
        exact q_retI X hH hr hlk hf (Nat.zero_le _) (Nat.zero_le _) dX6_lonelyCount_30
      · have hf := (if_neg c2).mp hf
        refine lv_aload_n hx hb dX6_lonelyCount_12 rfl (lv_at hl 0 rfl) ?_
        refine lv_iload_n hx hb dX6_lonelyCount_13 rfl (lv_at hl 2 rfl) ?_
        obtain ⟨hb1, hb2, hf⟩ := hf
        refine q_backI0 X hH (q_runV [.int l2] [] X hH hl (c_X6_bondsOf l D cy G X.2.2.2.1 S l0 l2 _ _ hf) mf_X6_bondsOf mv_X6_bondsOf tw_843 ⟨Nat.le_of_ble_eq_true rfl, Nat.le_of_ble_eq_true rfl⟩ hb1 hb2 (T := TX6) (N := 6) rfl rfl (Nat.le_of_ble_eq_true rfl) dX6_lonelyCount_14 ⟨Nat.le_of_ble_eq_true rfl, Nat.le_of_ble_eq_true rfl⟩) (fun v4 S3 hf H locs hH => ?_)
        refine lv_if_ne (tgt := 23) hx hb dX6_lonelyCount_17 (by decide) (fun c5 => ?_) (fun c5 => ?_)
        · have hf := (if_neg c5).mp hf
          exact hJ23 S3 l0 l1 l2 hf H locs ls hH hl
        · have hf := (if_pos c5).mp hf
          refine lv_iinc (v := l1 + 1) (lv' := [(1, .int (l1 + 1)), (0, .ref l0), (2, .int l2)]) hx hb dX6_lonelyCount_20 hl (k := 1) rfl rfl (by decide) rfl (fun ls hl => ?_)
          exact hJ23 S3 l0 (l1 + 1) l2 hf H locs ls hH (lv_sub hl [1, 0, 2] rfl)
  refine lv_iconst (v := 0) hx hb dX6_lonelyCount_0 (by decide) ?_
  refine lv_istore_n (lv' := [(1, .int 0), (0, .ref a0)]) hx hb dX6_lonelyCount_1 rfl hl (by decide) rfl (fun ls hl => ?_)
  refine lv_iconst (v := 0) hx hb dX6_lonelyCount_2 (by decide) ?_
  refine lv_istore_n (lv' := [(2, .int 0), (1, .int 0), (0, .ref a0)]) hx hb dX6_lonelyCount_3 rfl hl (by decide) rfl (fun ls hl => ?_)
  exact hL4 4096 S a0 0 0 hf H locs ls hH (lv_sub hl [2, 1, 0] rfl)
-- X6_bondByIndex
def f_X6_bondByIndex_J58 (post : Int32 → PS → Prop) (g4 : PS → Nat → Int32 → Int32 → Int32 → Prop) (S : PS) (l0 : Nat) (l1 : Int32) (l2 : Int32) (l3 : Int32) : Prop :=
  g4 S l0 l1 l2 (l3 + 1)
def f_X6_bondByIndex_J52 (post : Int32 → PS → Prop) (g17 : PS → Nat → Int32 → Int32 → Int32 → Int32 → Prop) (S : PS) (l0 : Nat) (l1 : Int32) (l2 : Int32) (l3 : Int32) (l4 : Int32) : Prop :=
  g17 S l0 l1 l2 l3 (l4 + 1)
def f_X6_bondByIndex_J41 (post : Int32 → PS → Prop) (S : PS) (l3 : Int32) (l4 : Int32) : Prop :=
  post (((10 : Int32) * l3) + l4) S
def f_X6_bondByIndex_L17 (post : Int32 → PS → Prop) (g4 : PS → Nat → Int32 → Int32 → Int32 → Prop) : Nat → PS → Nat → Int32 → Int32 → Int32 → Int32 → Prop
  | 0, _, _, _, _, _, _ => False
  | n + 1, S, l0, l1, l2, l3, l4 =>
  gI S l0 10 1 fun v1 => (
  if v1 ≤ l4 then
    f_X6_bondByIndex_J58 post g4 S l0 l1 l2 l3
  else
    isO S l0 10 (
    f_X6_tie S l0 l3 l4 fun v4 S3 => (
    if v4 ≤ 0 then
      f_X6_bondByIndex_J52 post (f_X6_bondByIndex_L17 post g4 n) S3 l0 l1 l2 l3 l4
    else
      if l2 = l1 then
        f_X6_bondByIndex_J41 post S3 l3 l4
      else
        f_X6_bondByIndex_J52 post (f_X6_bondByIndex_L17 post g4 n) S3 l0 l1 (l2 + 1) l3 l4)))
def f_X6_bondByIndex_L4 (post : Int32 → PS → Prop) : Nat → PS → Nat → Int32 → Int32 → Int32 → Prop
  | 0, _, _, _, _, _ => False
  | n + 1, S, l0, l1, l2, l3 =>
  gI S l0 10 1 fun v1 => (
  if v1 ≤ l3 then
    post (-1) S
  else
    f_X6_bondByIndex_L17 post (f_X6_bondByIndex_L4 post n) 4096 S l0 l1 l2 l3 (l3 + 1))
def f_X6_bondByIndex (S : PS) (a0 : Nat) (a1 : Int32) (post : Int32 → PS → Prop) : Prop :=
  f_X6_bondByIndex_L4 post 4096 S a0 a1 0 0
abbrev rm_X6_bondByIndex : Room := { frames := 2, cells := 0, slots := 0, locals := 43 }
set_option maxHeartbeats 4000000 in
set_option maxRecDepth 100000 in
theorem c_X6_bondByIndex (l : Launch) (D : va_G) (cy : Nat → ClassId) (G : p_GT) (hG : p_ok G) (S : PS) (a0 : Nat) (a1 : Int32) (post : Int32 → PS → Prop) (sz : Nat) (hf : f_X6_bondByIndex S a0 a1 post) : p_Mi l D cy G S sz yX6_bondByIndex (Cond.code yX6_bondByIndex cX6_bondByIndex 5 (some .int) :: wG) rm_X6_bondByIndex [.ref a0, .int a1] 0 0 post := by
  refine q_start hG (Qc := fun A => va_Qi post (p_Post D cy A) A) mf_X6_bondByIndex (Nat.le_of_ble_eq_true rfl) (own := RX6) rfl ?_
  intro p e s m below meth c A X hr hlk hnm ls hl hH
  have hx := X.1.1
  have hb := X.1.2.1
  replace hl : lv_has ls 5 [(0, .ref a0), (1, .int a1)] := hl
  obtain ⟨H, hHe⟩ : ∃ H, H = s.heap := ⟨_, rfl⟩
  obtain ⟨locs, hlo⟩ : ∃ locs : List Loc, locs = [] := ⟨_, rfl⟩
  rw [← hHe, ← hlo] at hH
  show W p l e rm_X6_bondByIndex s m [.ref a0, .int a1].toArray below meth c s.heap [] 0 0 _ _
  rw [← hHe, ← hlo]
  have hL4 : ∀ (n4 : Nat) (S : PS) (l0 : Nat) (l1 : Int32) (l2 : Int32) (l3 : Int32), f_X6_bondByIndex_L4 post n4 S l0 l1 l2 l3 → ∀ (H : Heap) (locs : List Loc) (ls : Array Slot), p_H D cy S A s H locs → lv_has ls 5 [(0, .ref l0), (1, .int l1), (2, .int l2), (3, .int l3)] → W p l e rm_X6_bondByIndex s m [.ref a0, .int a1].toArray below meth c H locs 0 0 (MQ below (va_Qi post (p_Post D cy A) A) [.ref a0, .int a1].toArray s 0 0 A) (F0 m 4 ls []) := by
    intro n4
    induction n4 with
    | zero => intro S l0 l1 l2 l3 hf; exact hf.elim
    | succ n4 ih4 =>
      intro S l0 l1 l2 l3 hf H locs ls hH hl
      have hL17 : ∀ (n17 : Nat) (S : PS) (l0 : Nat) (l1 : Int32) (l2 : Int32) (l3 : Int32) (l4 : Int32), f_X6_bondByIndex_L17 post (f_X6_bondByIndex_L4 post n4) n17 S l0 l1 l2 l3 l4 → ∀ (H : Heap) (locs : List Loc) (ls : Array Slot), p_H D cy S A s H locs → lv_has ls 5 [(0, .ref l0), (1, .int l1), (2, .int l2), (3, .int l3), (4, .int l4)] → W p l e rm_X6_bondByIndex s m [.ref a0, .int a1].toArray below meth c H locs 0 0 (MQ below (va_Qi post (p_Post D cy A) A) [.ref a0, .int a1].toArray s 0 0 A) (F0 m 17 ls []) := by
        intro n17
        induction n17 with
        | zero => intro S l0 l1 l2 l3 l4 hf; exact hf.elim
        | succ n17 ih17 =>
          intro S l0 l1 l2 l3 l4 hf H locs ls hH hl
          have hJ58 : ∀ (S : PS) (l0 : Nat) (l1 : Int32) (l2 : Int32) (l3 : Int32), f_X6_bondByIndex_J58 post (f_X6_bondByIndex_L4 post n4) S l0 l1 l2 l3 → ∀ (H : Heap) (locs : List Loc) (ls : Array Slot), p_H D cy S A s H locs → lv_has ls 5 [(0, .ref l0), (1, .int l1), (2, .int l2), (3, .int l3)] → W p l e rm_X6_bondByIndex s m [.ref a0, .int a1].toArray below meth c H locs 0 0 (MQ below (va_Qi post (p_Post D cy A) A) [.ref a0, .int a1].toArray s 0 0 A) (F0 m 58 ls []) := by
            intro S l0 l1 l2 l3 hf H locs ls hH hl
            refine lv_iinc (v := l3 + 1) (lv' := [(3, .int (l3 + 1)), (0, .ref l0), (1, .int l1), (2, .int l2)]) hx hb dX6_bondByIndex_58 hl (k := 3) rfl rfl (by decide) rfl (fun ls hl => ?_)
            refine lv_goto (tgt := 4) hx hb dX6_bondByIndex_61 (by decide) ?_
            exact ih4 S l0 l1 l2 (l3 + 1) hf H locs ls hH (lv_sub hl [1, 2, 3, 0] rfl)
          have hJ52 : ∀ (S : PS) (l0 : Nat) (l1 : Int32) (l2 : Int32) (l3 : Int32) (l4 : Int32), f_X6_bondByIndex_J52 post (f_X6_bondByIndex_L17 post (f_X6_bondByIndex_L4 post n4) n17) S l0 l1 l2 l3 l4 → ∀ (H : Heap) (locs : List Loc) (ls : Array Slot), p_H D cy S A s H locs → lv_has ls 5 [(0, .ref l0), (1, .int l1), (2, .int l2), (3, .int l3), (4, .int l4)] → W p l e rm_X6_bondByIndex s m [.ref a0, .int a1].toArray below meth c H locs 0 0 (MQ below (va_Qi post (p_Post D cy A) A) [.ref a0, .int a1].toArray s 0 0 A) (F0 m 52 ls []) := by
            intro S l0 l1 l2 l3 l4 hf H locs ls hH hl
            refine lv_iinc (v := l4 + 1) (lv' := [(4, .int (l4 + 1)), (0, .ref l0), (1, .int l1), (2, .int l2), (3, .int l3)]) hx hb dX6_bondByIndex_52 hl (k := 4) rfl rfl (by decide) rfl (fun ls hl => ?_)
            refine lv_goto (tgt := 17) hx hb dX6_bondByIndex_55 (by decide) ?_
            exact ih17 S l0 l1 l2 l3 (l4 + 1) hf H locs ls hH (lv_sub hl [1, 2, 3, 4, 0] rfl)
          have hJ41 : ∀ (S : PS) (l3 : Int32) (l4 : Int32), f_X6_bondByIndex_J41 post S l3 l4 → ∀ (H : Heap) (locs : List Loc) (ls : Array Slot), p_H D cy S A s H locs → lv_has ls 5 [(3, .int l3), (4, .int l4)] → W p l e rm_X6_bondByIndex s m [.ref a0, .int a1].toArray below meth c H locs 0 0 (MQ below (va_Qi post (p_Post D cy A) A) [.ref a0, .int a1].toArray s 0 0 A) (F0 m 41 ls []) := by
            intro S l3 l4 hf H locs ls hH hl
            refine lv_bipush (v := 10) hx hb dX6_bondByIndex_41 (by decide) ?_
            refine lv_iload_n hx hb dX6_bondByIndex_43 rfl (lv_at hl 0 rfl) ?_
            refine lv_imul hx hb dX6_bondByIndex_44 ?_
            refine lv_iload hx hb dX6_bondByIndex_45 (lv_at hl 1 rfl) ?_
            refine lv_iadd hx hb dX6_bondByIndex_47 ?_
            exact q_retI X hH hr hlk hf (Nat.zero_le _) (Nat.zero_le _) dX6_bondByIndex_48
          refine lv_iload hx hb dX6_bondByIndex_17 (lv_at hl 4 rfl) ?_
          refine lv_aload_n hx hb dX6_bondByIndex_19 rfl (lv_at hl 0 rfl) ?_
          refine q_getI (T := TX6) (N := 6) X hH hf iw_X6 rfl (by decide) tw_73 (fun _ h => h) dX6_bondByIndex_20 (fun v1 hf => ?_)
          refine lv_icmp_ge (tgt := 58) hx hb dX6_bondByIndex_23 (by decide) (fun c2 => ?_) (fun c2 => ?_)
          · have hf := (if_pos c2).mp hf
            exact hJ58 S l0 l1 l2 l3 hf H locs ls hH (lv_sub hl [0, 1, 2, 3] rfl)
          · have hf := (if_neg c2).mp hf
            refine lv_aload_n hx hb dX6_bondByIndex_26 rfl (lv_at hl 0 rfl) ?_
            refine lv_iload_n hx hb dX6_bondByIndex_27 rfl (lv_at hl 3 rfl) ?_
            refine lv_iload hx hb dX6_bondByIndex_28 (lv_at hl 4 rfl) ?_
            obtain ⟨hb1, hb2, hf⟩ := hf
            refine q_backI0 X hH (q_runV [.int l3, .int l4] [] X hH hl (c_X6_tie l D cy G X.2.2.2.1 S l0 l3 l4 _ _ hf) mf_X6_tie mv_X6_tie tw_378 ⟨Nat.le_of_ble_eq_true rfl, Nat.le_of_ble_eq_true rfl⟩ hb1 hb2 (T := TX6) (N := 6) rfl rfl (Nat.le_of_ble_eq_true rfl) dX6_bondByIndex_30 ⟨Nat.le_of_ble_eq_true rfl, Nat.le_of_ble_eq_true rfl⟩) (fun v4 S3 hf H locs hH => ?_)
            refine lv_if_le (tgt := 52) hx hb dX6_bondByIndex_33 (by decide) (fun c5 => ?_) (fun c5 => ?_)
            · have hf := (if_pos c5).mp hf
              exact hJ52 S3 l0 l1 l2 l3 l4 hf H locs ls hH hl
            · have hf := (if_neg c5).mp hf
              refine lv_iload_n hx hb dX6_bondByIndex_36 rfl (lv_at hl 2 rfl) ?_
              refine lv_iload_n hx hb dX6_bondByIndex_37 rfl (lv_at hl 1 rfl) ?_
              refine lv_icmp_ne (tgt := 49) hx hb dX6_bondByIndex_38 (by decide) (fun c6 => ?_) (fun c6 => ?_)
              · have hf := (if_neg c6).mp hf
                refine lv_iinc (v := l2 + 1) (lv' := [(2, .int (l2 + 1)), (0, .ref l0), (1, .int l1), (3, .int l3), (4, .int l4)]) hx hb dX6_bondByIndex_49 hl (k := 2) rfl rfl (by decide) rfl (fun ls hl => ?_)
                exact hJ52 S3 l0 l1 (l2 + 1) l3 l4 hf H locs ls hH (lv_sub hl [1, 2, 0, 3, 4] rfl)
              · have hf := (if_pos c6).mp hf
                exact hJ41 S3 l3 l4 hf H locs ls hH (lv_sub hl [3, 4] rfl)
      refine lv_iload_n hx hb dX6_bondByIndex_4 rfl (lv_at hl 3 rfl) ?_
      refine lv_aload_n hx hb dX6_bondByIndex_5 rfl (lv_at hl 0 rfl) ?_
      refine q_getI (T := TX6) (N := 6) X hH hf iw_X6 rfl (by decide) tw_73 (fun _ h => h) dX6_bondByIndex_6 (fun v1 hf => ?_)
      refine lv_icmp_ge (tgt := 64) hx hb dX6_bondByIndex_9 (by decide) (fun c2 => ?_) (fun c2 => ?_)
      · have hf := (if_pos c2).mp hf
        refine lv_iconst (v := (-1)) hx hb dX6_bondByIndex_64 (by decide) ?_
        exact q_retI X hH hr hlk hf (Nat.zero_le _) (Nat.zero_le _) dX6_bondByIndex_65
      · have hf := (if_neg c2).mp hf
        refine lv_iload_n hx hb dX6_bondByIndex_12 rfl (lv_at hl 3 rfl) ?_
        refine lv_iconst (v := 1) hx hb dX6_bondByIndex_13 (by decide) ?_
        refine lv_iadd hx hb dX6_bondByIndex_14 ?_
        refine lv_istore (lv' := [(4, .int (l3 + 1)), (0, .ref l0), (1, .int l1), (2, .int l2), (3, .int l3)]) hx hb dX6_bondByIndex_15 hl (by decide) rfl (fun ls hl => ?_)
        exact hL17 4096 S l0 l1 l2 l3 (l3 + 1) hf H locs ls hH (lv_sub hl [1, 2, 3, 4, 0] rfl)
  refine lv_iconst (v := 0) hx hb dX6_bondByIndex_0 (by decide) ?_
  refine lv_istore_n (lv' := [(2, .int 0), (0, .ref a0), (1, .int a1)]) hx hb dX6_bondByIndex_1 rfl hl (by decide) rfl (fun ls hl => ?_)
  refine lv_iconst (v := 0) hx hb dX6_bondByIndex_2 (by decide) ?_
  refine lv_istore_n (lv' := [(3, .int 0), (2, .int 0), (0, .ref a0), (1, .int a1)]) hx hb dX6_bondByIndex_3 rfl hl (by decide) rfl (fun ls hl => ?_)
  exact hL4 4096 S a0 a1 0 0 hf H locs ls hH (lv_sub hl [2, 3, 1, 0] rfl)
-- X6_heaviestBond
def f_X6_heaviestBond_J61 (post : Int32 → PS → Prop) (g6 : PS → Nat → Int32 → Int32 → Int32 → Prop) (S : PS) (l0 : Nat) (l1 : Int32) (l2 : Int32) (l3 : Int32) : Prop :=
  g6 S l0 l1 l2 (l3 + 1)
def f_X6_heaviestBond_J55 (post : Int32 → PS → Prop) (g19 : PS → Nat → Int32 → Int32 → Int32 → Int32 → Prop) (S : PS) (l0 : Nat) (l1 : Int32) (l2 : Int32) (l3 : Int32) (l4 : Int32) : Prop :=
  g19 S l0 l1 l2 l3 (l4 + 1)
def f_X6_heaviestBond_L19 (post : Int32 → PS → Prop) (g6 : PS → Nat → Int32 → Int32 → Int32 → Prop) : Nat → PS → Nat → Int32 → Int32 → Int32 → Int32 → Prop
  | 0, _, _, _, _, _, _ => False
  | n + 1, S, l0, l1, l2, l3, l4 =>
  gI S l0 10 1 fun v1 => (
  if v1 ≤ l4 then
    f_X6_heaviestBond_J61 post g6 S l0 l1 l2 l3
  else
    isO S l0 10 (
    f_X6_tie S l0 l3 l4 fun v4 S3 => (
    if v4 ≤ l2 then
      f_X6_heaviestBond_J55 post (f_X6_heaviestBond_L19 post g6 n) S3 l0 l1 l2 l3 l4
    else
      isO S3 l0 10 (
      f_X6_tie S3 l0 l3 l4 fun v7 S6 => (
      f_X6_heaviestBond_J55 post (f_X6_heaviestBond_L19 post g6 n) S6 l0 (((10 : Int32) * l3) + l4) v7 l3 l4)))))
def f_X6_heaviestBond_L6 (post : Int32 → PS → Prop) : Nat → PS → Nat → Int32 → Int32 → Int32 → Prop
  | 0, _, _, _, _, _ => False
  | n + 1, S, l0, l1, l2, l3 =>
  gI S l0 10 1 fun v1 => (
  if v1 ≤ l3 then
    post l1 S
  else
    f_X6_heaviestBond_L19 post (f_X6_heaviestBond_L6 post n) 4096 S l0 l1 l2 l3 (l3 + 1))
def f_X6_heaviestBond (S : PS) (a0 : Nat) (post : Int32 → PS → Prop) : Prop :=
  f_X6_heaviestBond_L6 post 4096 S a0 (-1) 0 0
abbrev rm_X6_heaviestBond : Room := { frames := 2, cells := 0, slots := 0, locals := 43 }
set_option maxHeartbeats 4000000 in
set_option maxRecDepth 100000 in
theorem c_X6_heaviestBond (l : Launch) (D : va_G) (cy : Nat → ClassId) (G : p_GT) (hG : p_ok G) (S : PS) (a0 : Nat) (post : Int32 → PS → Prop) (sz : Nat) (hf : f_X6_heaviestBond S a0 post) : p_Mi l D cy G S sz yX6_heaviestBond (Cond.code yX6_heaviestBond cX6_heaviestBond 5 (some .int) :: wG) rm_X6_heaviestBond [.ref a0] 0 0 post := by
  refine q_start hG (Qc := fun A => va_Qi post (p_Post D cy A) A) mf_X6_heaviestBond (Nat.le_of_ble_eq_true rfl) (own := RX6) rfl ?_
  intro p e s m below meth c A X hr hlk hnm ls hl hH
  have hx := X.1.1
  have hb := X.1.2.1
  replace hl : lv_has ls 5 [(0, .ref a0)] := hl
  obtain ⟨H, hHe⟩ : ∃ H, H = s.heap := ⟨_, rfl⟩
  obtain ⟨locs, hlo⟩ : ∃ locs : List Loc, locs = [] := ⟨_, rfl⟩
  rw [← hHe, ← hlo] at hH
  show W p l e rm_X6_heaviestBond s m [.ref a0].toArray below meth c s.heap [] 0 0 _ _
  rw [← hHe, ← hlo]
  have hL6 : ∀ (n6 : Nat) (S : PS) (l0 : Nat) (l1 : Int32) (l2 : Int32) (l3 : Int32), f_X6_heaviestBond_L6 post n6 S l0 l1 l2 l3 → ∀ (H : Heap) (locs : List Loc) (ls : Array Slot), p_H D cy S A s H locs → lv_has ls 5 [(0, .ref l0), (1, .int l1), (2, .int l2), (3, .int l3)] → W p l e rm_X6_heaviestBond s m [.ref a0].toArray below meth c H locs 0 0 (MQ below (va_Qi post (p_Post D cy A) A) [.ref a0].toArray s 0 0 A) (F0 m 6 ls []) := by
    intro n6
    induction n6 with
    | zero => intro S l0 l1 l2 l3 hf; exact hf.elim
    | succ n6 ih6 =>
      intro S l0 l1 l2 l3 hf H locs ls hH hl
      have hL19 : ∀ (n19 : Nat) (S : PS) (l0 : Nat) (l1 : Int32) (l2 : Int32) (l3 : Int32) (l4 : Int32), f_X6_heaviestBond_L19 post (f_X6_heaviestBond_L6 post n6) n19 S l0 l1 l2 l3 l4 → ∀ (H : Heap) (locs : List Loc) (ls : Array Slot), p_H D cy S A s H locs → lv_has ls 5 [(0, .ref l0), (1, .int l1), (2, .int l2), (3, .int l3), (4, .int l4)] → W p l e rm_X6_heaviestBond s m [.ref a0].toArray below meth c H locs 0 0 (MQ below (va_Qi post (p_Post D cy A) A) [.ref a0].toArray s 0 0 A) (F0 m 19 ls []) := by
        intro n19
        induction n19 with
        | zero => intro S l0 l1 l2 l3 l4 hf; exact hf.elim
        | succ n19 ih19 =>
          intro S l0 l1 l2 l3 l4 hf H locs ls hH hl
          have hJ61 : ∀ (S : PS) (l0 : Nat) (l1 : Int32) (l2 : Int32) (l3 : Int32), f_X6_heaviestBond_J61 post (f_X6_heaviestBond_L6 post n6) S l0 l1 l2 l3 → ∀ (H : Heap) (locs : List Loc) (ls : Array Slot), p_H D cy S A s H locs → lv_has ls 5 [(0, .ref l0), (1, .int l1), (2, .int l2), (3, .int l3)] → W p l e rm_X6_heaviestBond s m [.ref a0].toArray below meth c H locs 0 0 (MQ below (va_Qi post (p_Post D cy A) A) [.ref a0].toArray s 0 0 A) (F0 m 61 ls []) := by
            intro S l0 l1 l2 l3 hf H locs ls hH hl
            refine lv_iinc (v := l3 + 1) (lv' := [(3, .int (l3 + 1)), (0, .ref l0), (1, .int l1), (2, .int l2)]) hx hb dX6_heaviestBond_61 hl (k := 3) rfl rfl (by decide) rfl (fun ls hl => ?_)
            refine lv_goto (tgt := 6) hx hb dX6_heaviestBond_64 (by decide) ?_
            exact ih6 S l0 l1 l2 (l3 + 1) hf H locs ls hH (lv_sub hl [1, 2, 3, 0] rfl)
          have hJ55 : ∀ (S : PS) (l0 : Nat) (l1 : Int32) (l2 : Int32) (l3 : Int32) (l4 : Int32), f_X6_heaviestBond_J55 post (f_X6_heaviestBond_L19 post (f_X6_heaviestBond_L6 post n6) n19) S l0 l1 l2 l3 l4 → ∀ (H : Heap) (locs : List Loc) (ls : Array Slot), p_H D cy S A s H locs → lv_has ls 5 [(0, .ref l0), (1, .int l1), (2, .int l2), (3, .int l3), (4, .int l4)] → W p l e rm_X6_heaviestBond s m [.ref a0].toArray below meth c H locs 0 0 (MQ below (va_Qi post (p_Post D cy A) A) [.ref a0].toArray s 0 0 A) (F0 m 55 ls []) := by
            intro S l0 l1 l2 l3 l4 hf H locs ls hH hl
            refine lv_iinc (v := l4 + 1) (lv' := [(4, .int (l4 + 1)), (0, .ref l0), (1, .int l1), (2, .int l2), (3, .int l3)]) hx hb dX6_heaviestBond_55 hl (k := 4) rfl rfl (by decide) rfl (fun ls hl => ?_)
            refine lv_goto (tgt := 19) hx hb dX6_heaviestBond_58 (by decide) ?_
            exact ih19 S l0 l1 l2 l3 (l4 + 1) hf H locs ls hH (lv_sub hl [1, 2, 3, 4, 0] rfl)
          refine lv_iload hx hb dX6_heaviestBond_19 (lv_at hl 4 rfl) ?_
          refine lv_aload_n hx hb dX6_heaviestBond_21 rfl (lv_at hl 0 rfl) ?_
          refine q_getI (T := TX6) (N := 6) X hH hf iw_X6 rfl (by decide) tw_73 (fun _ h => h) dX6_heaviestBond_22 (fun v1 hf => ?_)
          refine lv_icmp_ge (tgt := 61) hx hb dX6_heaviestBond_25 (by decide) (fun c2 => ?_) (fun c2 => ?_)
          · have hf := (if_pos c2).mp hf
            exact hJ61 S l0 l1 l2 l3 hf H locs ls hH (lv_sub hl [0, 1, 2, 3] rfl)
          · have hf := (if_neg c2).mp hf
            refine lv_aload_n hx hb dX6_heaviestBond_28 rfl (lv_at hl 0 rfl) ?_
            refine lv_iload_n hx hb dX6_heaviestBond_29 rfl (lv_at hl 3 rfl) ?_
            refine lv_iload hx hb dX6_heaviestBond_30 (lv_at hl 4 rfl) ?_
            obtain ⟨hb1, hb2, hf⟩ := hf
            refine q_backI0 X hH (q_runV [.int l3, .int l4] [] X hH hl (c_X6_tie l D cy G X.2.2.2.1 S l0 l3 l4 _ _ hf) mf_X6_tie mv_X6_tie tw_378 ⟨Nat.le_of_ble_eq_true rfl, Nat.le_of_ble_eq_true rfl⟩ hb1 hb2 (T := TX6) (N := 6) rfl rfl (Nat.le_of_ble_eq_true rfl) dX6_heaviestBond_32 ⟨Nat.le_of_ble_eq_true rfl, Nat.le_of_ble_eq_true rfl⟩) (fun v4 S3 hf H locs hH => ?_)
            refine lv_iload_n hx hb dX6_heaviestBond_35 rfl (lv_at hl 2 rfl) ?_
            refine lv_icmp_le (tgt := 55) hx hb dX6_heaviestBond_36 (by decide) (fun c5 => ?_) (fun c5 => ?_)
            · have hf := (if_pos c5).mp hf
              exact hJ55 S3 l0 l1 l2 l3 l4 hf H locs ls hH hl
            · have hf := (if_neg c5).mp hf
              refine lv_aload_n hx hb dX6_heaviestBond_39 rfl (lv_at hl 0 rfl) ?_
              refine lv_iload_n hx hb dX6_heaviestBond_40 rfl (lv_at hl 3 rfl) ?_
              refine lv_iload hx hb dX6_heaviestBond_41 (lv_at hl 4 rfl) ?_
              obtain ⟨hb1, hb2, hf⟩ := hf
              refine q_backI0 X hH (q_runV [.int l3, .int l4] [] X hH hl (c_X6_tie l D cy G X.2.2.2.1 S3 l0 l3 l4 _ _ hf) mf_X6_tie mv_X6_tie tw_378 ⟨Nat.le_of_ble_eq_true rfl, Nat.le_of_ble_eq_true rfl⟩ hb1 hb2 (T := TX6) (N := 6) rfl rfl (Nat.le_of_ble_eq_true rfl) dX6_heaviestBond_43 ⟨Nat.le_of_ble_eq_true rfl, Nat.le_of_ble_eq_true rfl⟩) (fun v7 S6 hf H locs hH => ?_)
              refine lv_istore_n (lv' := [(2, .int v7), (0, .ref l0), (1, .int l1), (3, .int l3), (4, .int l4)]) hx hb dX6_heaviestBond_46 rfl hl (by decide) rfl (fun ls hl => ?_)
              refine lv_bipush (v := 10) hx hb dX6_heaviestBond_47 (by decide) ?_
              refine lv_iload_n hx hb dX6_heaviestBond_49 rfl (lv_at hl 3 rfl) ?_
              refine lv_imul hx hb dX6_heaviestBond_50 ?_
              refine lv_iload hx hb dX6_heaviestBond_51 (lv_at hl 4 rfl) ?_
              refine lv_iadd hx hb dX6_heaviestBond_53 ?_
              refine lv_istore_n (lv' := [(1, .int (((10 : Int32) * l3) + l4)), (2, .int v7), (0, .ref l0), (3, .int l3), (4, .int l4)]) hx hb dX6_heaviestBond_54 rfl hl (by decide) rfl (fun ls hl => ?_)
              exact hJ55 S6 l0 (((10 : Int32) * l3) + l4) v7 l3 l4 hf H locs ls hH (lv_sub hl [2, 0, 1, 3, 4] rfl)
      refine lv_iload_n hx hb dX6_heaviestBond_6 rfl (lv_at hl 3 rfl) ?_
      refine lv_aload_n hx hb dX6_heaviestBond_7 rfl (lv_at hl 0 rfl) ?_
      refine q_getI (T := TX6) (N := 6) X hH hf iw_X6 rfl (by decide) tw_73 (fun _ h => h) dX6_heaviestBond_8 (fun v1 hf => ?_)
      refine lv_icmp_ge (tgt := 67) hx hb dX6_heaviestBond_11 (by decide) (fun c2 => ?_) (fun c2 => ?_)
      · have hf := (if_pos c2).mp hf
        refine lv_iload_n hx hb dX6_heaviestBond_67 rfl (lv_at hl 1 rfl) ?_
        exact q_retI X hH hr hlk hf (Nat.zero_le _) (Nat.zero_le _) dX6_heaviestBond_68
      · have hf := (if_neg c2).mp hf
        refine lv_iload_n hx hb dX6_heaviestBond_14 rfl (lv_at hl 3 rfl) ?_
        refine lv_iconst (v := 1) hx hb dX6_heaviestBond_15 (by decide) ?_
        refine lv_iadd hx hb dX6_heaviestBond_16 ?_
        refine lv_istore (lv' := [(4, .int (l3 + 1)), (0, .ref l0), (1, .int l1), (2, .int l2), (3, .int l3)]) hx hb dX6_heaviestBond_17 hl (by decide) rfl (fun ls hl => ?_)
        exact hL19 4096 S l0 l1 l2 l3 (l3 + 1) hf H locs ls hH (lv_sub hl [1, 2, 3, 4, 0] rfl)
  refine lv_iconst (v := (-1)) hx hb dX6_heaviestBond_0 (by decide) ?_
  refine lv_istore_n (lv' := [(1, .int ((-1))), (0, .ref a0)]) hx hb dX6_heaviestBond_1 rfl hl (by decide) rfl (fun ls hl => ?_)
  refine lv_iconst (v := 0) hx hb dX6_heaviestBond_2 (by decide) ?_
  refine lv_istore_n (lv' := [(2, .int 0), (1, .int ((-1))), (0, .ref a0)]) hx hb dX6_heaviestBond_3 rfl hl (by decide) rfl (fun ls hl => ?_)
  refine lv_iconst (v := 0) hx hb dX6_heaviestBond_4 (by decide) ?_
  refine lv_istore_n (lv' := [(3, .int 0), (2, .int 0), (1, .int ((-1))), (0, .ref a0)]) hx hb dX6_heaviestBond_5 rfl hl (by decide) rfl (fun ls hl => ?_)
  exact hL6 4096 S a0 (-1) 0 0 hf H locs ls hH (lv_sub hl [3, 2, 1, 0] rfl)
-- X7_weight
def f_X7_weight_J22 (post : Int32 → PS → Prop) (postX : String → PS → Prop) (S : PS) (bc bs : Nat)  : Prop :=
  tX S "java/lang/IndexOutOfBoundsException" bc bs postX
def f_X7_weight (S : PS) (a0 : Nat) (a1 : Int32) (a2 : Int32) (bc bs : Nat) (post : Int32 → PS → Prop) (postX : String → PS → Prop) : Prop :=
  gR S a0 11 0 fun v1 => (
  isO S v1 10 (
  f_X6_has S v1 a1 fun v3 S2 => (
  if v3 = 0 then
    f_X7_weight_J22 post postX S2 bc bs
  else
    gR S2 a0 11 0 fun v5 => (
    isO S2 v5 10 (
    f_X6_has S2 v5 a2 fun v7 S6 => (
    if v7 = 0 then
      f_X7_weight_J22 post postX S6 bc bs
    else
      gR S6 a0 11 0 fun v9 => (
      isO S6 v9 10 (
      f_X6_tie S6 v9 a1 a2 fun v11 S10 => (
      post v11 S10)))))))))
abbrev rm_X7_weight (mc ms : Nat) : Room := { frames := 6, cells := mc, slots := ms, locals := 90 }
set_option maxHeartbeats 4000000 in
set_option maxRecDepth 100000 in
theorem c_X7_weight (l : Launch) (D : va_G) (cy : Nat → ClassId) (G : p_GT) (hG : p_ok G) (hst : l.stackTraces = false) (hGE : ∀ (A : Nat → Prop) (U : State) (H : Heap), G A U H → p_Ex A U H) (S : PS) (a0 : Nat) (a1 : Int32) (a2 : Int32) (mc ms : Nat) (post : Int32 → PS → Prop) (postX : String → PS → Prop) (sz : Nat) (hf : f_X7_weight S a0 a1 a2 mc ms post postX) : p_Xi l D cy G S sz yX7_weight (Cond.code yX7_weight cX7_weight 3 (some .int) :: wG) (rm_X7_weight mc ms) [.ref a0, .int a1, .int a2] mc ms post postX := by
  refine q_startX hG (Qc := fun A => va_Qi post (p_Post D cy A) A) (XC := fun A => p_XC D cy A postX) mf_X7_weight (Nat.le_of_ble_eq_true rfl) (own := RX7) rfl ?_
  intro p e s m below meth c A X hr hlk hnm htab ls hl hH
  have hx := X.1.1
  have hb := X.1.2.1
  replace hl : lv_has ls 3 [(0, .ref a0), (1, .int a1), (2, .int a2)] := hl
  have main : ∀ (H : Heap) (locs : List Loc) (ls : Array Slot) (cells slots bc bs : Nat), f_X7_weight S a0 a1 a2 bc bs post postX → p_H D cy S A s H locs → lv_has ls 3 [(0, .ref a0), (1, .int a1), (2, .int a2)] → cells + bc ≤ mc ∧ slots + bs ≤ ms → W p l e (rm_X7_weight mc ms) s m [.ref a0, .int a1, .int a2].toArray below meth c H locs cells slots (vx_MQ below (va_Qi post (p_Post D cy A) A) (p_XC D cy A postX) [.ref a0, .int a1, .int a2].toArray s mc ms A) (F0 m 0 ls []) := by
    intro H locs ls cells slots bc bs hf hH hl hB
    have hJ22 : ∀ (S : PS) (bc bs : Nat), f_X7_weight_J22 post postX S bc bs → ∀ (H : Heap) (locs : List Loc) (ls : Array Slot) (cells slots : Nat), p_H D cy S A s H locs → lv_has ls 3 [] → cells + bc ≤ mc ∧ slots + bs ≤ ms → W p l e (rm_X7_weight mc ms) s m [.ref a0, .int a1, .int a2].toArray below meth c H locs cells slots (vx_MQ below (va_Qi post (p_Post D cy A) A) (p_XC D cy A postX) [.ref a0, .int a1, .int a2].toArray s mc ms A) (F0 m 22 ls []) := by
      intro S bc bs hf H locs ls cells slots hH hl hB
      exact q_throw X hH hl hB rfl rfl hst (hGE _ _ _ X.2.2.2.2) hf tw_298 tw_52 (text := "there is no such household") (List.mem_of_getElem? (i := 1) rfl) xa_IndexOutOfBoundsException xg_IndexOutOfBoundsException (by decide +kernel) (by decide +kernel) dX7_weight_22 dX7_weight_25 dX7_weight_26 dX7_weight_28 dX7_weight_31 htab ⟨Nat.le_of_ble_eq_true rfl, Nat.le_of_ble_eq_true rfl⟩ (Nat.le_of_ble_eq_true rfl) hlk
    refine lv_aload_n hx hb dX7_weight_0 rfl (lv_at hl 0 rfl) ?_
    refine q_getR (T := TX7) (N := 12) X hH hf iw_X7 rfl (by decide) tw_253 (fun _ h => h) dX7_weight_1 (fun v1 hf => ?_)
    refine lv_iload_n hx hb dX7_weight_4 rfl (lv_at hl 1 rfl) ?_
    obtain ⟨hb1, hb2, hf⟩ := hf
    refine q_backI0 X hH (q_runV [.int a1] [] X hH hl (c_X6_has l D cy G X.2.2.2.1 S v1 a1 _ _ hf) mf_X6_has mv_X6_has tw_294 ⟨Nat.le_of_ble_eq_true rfl, Nat.le_of_ble_eq_true rfl⟩ hb1 hb2 (T := TX6) (N := 6) rfl rfl (Nat.le_of_ble_eq_true rfl) dX7_weight_5 ⟨Nat.le_trans (Nat.le_add_right _ _) hB.1, Nat.le_trans (Nat.le_add_right _ _) hB.2⟩) (fun v3 S2 hf H locs hH => ?_)
    refine lv_if_eq (tgt := 22) hx hb dX7_weight_8 (by decide) (fun c4 => ?_) (fun c4 => ?_)
    · have hf := (if_pos c4).mp hf
      exact hJ22 S2 bc bs hf H locs ls cells slots hH (lv_sub hl [] rfl) hB
    · have hf := (if_neg c4).mp hf
      refine lv_aload_n hx hb dX7_weight_11 rfl (lv_at hl 0 rfl) ?_
      refine q_getR (T := TX7) (N := 12) X hH hf iw_X7 rfl (by decide) tw_253 (fun _ h => h) dX7_weight_12 (fun v5 hf => ?_)
      refine lv_iload_n hx hb dX7_weight_15 rfl (lv_at hl 2 rfl) ?_
      obtain ⟨hb1, hb2, hf⟩ := hf
      refine q_backI0 X hH (q_runV [.int a2] [] X hH hl (c_X6_has l D cy G X.2.2.2.1 S2 v5 a2 _ _ hf) mf_X6_has mv_X6_has tw_294 ⟨Nat.le_of_ble_eq_true rfl, Nat.le_of_ble_eq_true rfl⟩ hb1 hb2 (T := TX6) (N := 6) rfl rfl (Nat.le_of_ble_eq_true rfl) dX7_weight_16 ⟨Nat.le_trans (Nat.le_add_right _ _) hB.1, Nat.le_trans (Nat.le_add_right _ _) hB.2⟩) (fun v7 S6 hf H locs hH => ?_)
      refine lv_if_ne (tgt := 32) hx hb dX7_weight_19 (by decide) (fun c8 => ?_) (fun c8 => ?_)
      · have hf := (if_neg c8).mp hf
        refine lv_aload_n hx hb dX7_weight_32 rfl (lv_at hl 0 rfl) ?_
        refine q_getR (T := TX7) (N := 12) X hH hf iw_X7 rfl (by decide) tw_253 (fun _ h => h) dX7_weight_33 (fun v9 hf => ?_)
        refine lv_iload_n hx hb dX7_weight_36 rfl (lv_at hl 1 rfl) ?_
        refine lv_iload_n hx hb dX7_weight_37 rfl (lv_at hl 2 rfl) ?_
        obtain ⟨hb1, hb2, hf⟩ := hf
        refine q_backI0 X hH (q_runV [.int a1, .int a2] [] X hH hl (c_X6_tie l D cy G X.2.2.2.1 S6 v9 a1 a2 _ _ hf) mf_X6_tie mv_X6_tie tw_722 ⟨Nat.le_of_ble_eq_true rfl, Nat.le_of_ble_eq_true rfl⟩ hb1 hb2 (T := TX6) (N := 6) rfl rfl (Nat.le_of_ble_eq_true rfl) dX7_weight_38 ⟨Nat.le_trans (Nat.le_add_right _ _) hB.1, Nat.le_trans (Nat.le_add_right _ _) hB.2⟩) (fun v11 S10 hf H locs hH => ?_)
        exact vx_ret (q_retI X hH hr hlk hf (Nat.le_trans (Nat.le_add_right _ _) hB.1) (Nat.le_trans (Nat.le_add_right _ _) hB.2) dX7_weight_41)
      · have hf := (if_pos c8).mp hf
        exact hJ22 S6 bc bs hf H locs ls cells slots hH (lv_sub hl [] rfl) hB
  exact main s.heap [] ls 0 0 mc ms hf hH hl ⟨by omega, by omega⟩
-- X7_phases
def f_X7_phases (S : PS) (a0 : Nat) (post : Int32 → PS → Prop) : Prop :=
  gR S a0 11 0 fun v1 => (
  isO S v1 10 (
  f_X6_phaseCount S v1 fun v3 S2 => (
  post v3 S2)))
abbrev rm_X7_phases : Room := { frames := 1, cells := 0, slots := 0, locals := 20 }
set_option maxHeartbeats 4000000 in
set_option maxRecDepth 100000 in
theorem c_X7_phases (l : Launch) (D : va_G) (cy : Nat → ClassId) (G : p_GT) (hG : p_ok G) (S : PS) (a0 : Nat) (post : Int32 → PS → Prop) (sz : Nat) (hf : f_X7_phases S a0 post) : p_Mi l D cy G S sz yX7_phases (Cond.code yX7_phases cX7_phases 1 (some .int) :: wG) rm_X7_phases [.ref a0] 0 0 post := by
  refine q_start hG (Qc := fun A => va_Qi post (p_Post D cy A) A) mf_X7_phases (Nat.le_of_ble_eq_true rfl) (own := RX7) rfl ?_
  intro p e s m below meth c A X hr hlk hnm ls hl hH
  have hx := X.1.1
  have hb := X.1.2.1
  replace hl : lv_has ls 1 [(0, .ref a0)] := hl
  obtain ⟨H, hHe⟩ : ∃ H, H = s.heap := ⟨_, rfl⟩
  obtain ⟨locs, hlo⟩ : ∃ locs : List Loc, locs = [] := ⟨_, rfl⟩
  rw [← hHe, ← hlo] at hH
  show W p l e rm_X7_phases s m [.ref a0].toArray below meth c s.heap [] 0 0 _ _
  rw [← hHe, ← hlo]
  refine lv_aload_n hx hb dX7_phases_0 rfl (lv_at hl 0 rfl) ?_
  refine q_getR (T := TX7) (N := 12) X hH hf iw_X7 rfl (by decide) tw_253 (fun _ h => h) dX7_phases_1 (fun v1 hf => ?_)
  obtain ⟨hb1, hb2, hf⟩ := hf
  refine q_backI0 X hH (q_runV [] [] X hH hl (c_X6_phaseCount l D cy G X.2.2.2.1 S v1 _ _ hf) mf_X6_phaseCount mv_X6_phaseCount tw_444 ⟨Nat.le_of_ble_eq_true rfl, Nat.le_of_ble_eq_true rfl⟩ hb1 hb2 (T := TX6) (N := 6) rfl rfl (Nat.le_of_ble_eq_true rfl) dX7_phases_4 ⟨Nat.le_of_ble_eq_true rfl, Nat.le_of_ble_eq_true rfl⟩) (fun v3 S2 hf H locs hH => ?_)
  exact q_retI X hH hr hlk hf (Nat.zero_le _) (Nat.zero_le _) dX7_phases_7
-- X7_bondAt
def f_X7_bondAt (S : PS) (a0 : Nat) (a1 : Int32) (bc bs : Nat) (post : Int32 → PS → Prop) (postX : String → PS → Prop) : Prop :=
  gR S a0 11 0 fun v1 => (
  isO S v1 10 (
  f_X6_bondByIndex S v1 a1 fun v3 S2 => (
  if 0 ≤ v3 then
    post v3 S2
  else
    tX S2 "java/util/NoSuchElementException" bc bs postX)))
abbrev rm_X7_bondAt (mc ms : Nat) : Room := { frames := 6, cells := mc, slots := ms, locals := 90 }
set_option maxHeartbeats 4000000 in
set_option maxRecDepth 100000 in
theorem c_X7_bondAt (l : Launch) (D : va_G) (cy : Nat → ClassId) (G : p_GT) (hG : p_ok G) (hst : l.stackTraces = false) (hGE : ∀ (A : Nat → Prop) (U : State) (H : Heap), G A U H → p_Ex A U H) (S : PS) (a0 : Nat) (a1 : Int32) (mc ms : Nat) (post : Int32 → PS → Prop) (postX : String → PS → Prop) (sz : Nat) (hf : f_X7_bondAt S a0 a1 mc ms post postX) : p_Xi l D cy G S sz yX7_bondAt (Cond.code yX7_bondAt cX7_bondAt 3 (some .int) :: wG) (rm_X7_bondAt mc ms) [.ref a0, .int a1] mc ms post postX := by
  refine q_startX hG (Qc := fun A => va_Qi post (p_Post D cy A) A) (XC := fun A => p_XC D cy A postX) mf_X7_bondAt (Nat.le_of_ble_eq_true rfl) (own := RX7) rfl ?_
  intro p e s m below meth c A X hr hlk hnm htab ls hl hH
  have hx := X.1.1
  have hb := X.1.2.1
  replace hl : lv_has ls 3 [(0, .ref a0), (1, .int a1)] := hl
  have main : ∀ (H : Heap) (locs : List Loc) (ls : Array Slot) (cells slots bc bs : Nat), f_X7_bondAt S a0 a1 bc bs post postX → p_H D cy S A s H locs → lv_has ls 3 [(0, .ref a0), (1, .int a1)] → cells + bc ≤ mc ∧ slots + bs ≤ ms → W p l e (rm_X7_bondAt mc ms) s m [.ref a0, .int a1].toArray below meth c H locs cells slots (vx_MQ below (va_Qi post (p_Post D cy A) A) (p_XC D cy A postX) [.ref a0, .int a1].toArray s mc ms A) (F0 m 0 ls []) := by
    intro H locs ls cells slots bc bs hf hH hl hB
    refine lv_aload_n hx hb dX7_bondAt_0 rfl (lv_at hl 0 rfl) ?_
    refine q_getR (T := TX7) (N := 12) X hH hf iw_X7 rfl (by decide) tw_253 (fun _ h => h) dX7_bondAt_1 (fun v1 hf => ?_)
    refine lv_iload_n hx hb dX7_bondAt_4 rfl (lv_at hl 1 rfl) ?_
    obtain ⟨hb1, hb2, hf⟩ := hf
    refine q_backI0 X hH (q_runV [.int a1] [] X hH hl (c_X6_bondByIndex l D cy G X.2.2.2.1 S v1 a1 _ _ hf) mf_X6_bondByIndex mv_X6_bondByIndex tw_953 ⟨Nat.le_of_ble_eq_true rfl, Nat.le_of_ble_eq_true rfl⟩ hb1 hb2 (T := TX6) (N := 6) rfl rfl (Nat.le_of_ble_eq_true rfl) dX7_bondAt_5 ⟨Nat.le_trans (Nat.le_add_right _ _) hB.1, Nat.le_trans (Nat.le_add_right _ _) hB.2⟩) (fun v3 S2 hf H locs hH => ?_)
    refine lv_istore_n (lv' := [(2, .int v3), (0, .ref a0), (1, .int a1)]) hx hb dX7_bondAt_8 rfl hl (by decide) rfl (fun ls hl => ?_)
    refine lv_iload_n hx hb dX7_bondAt_9 rfl (lv_at hl 0 rfl) ?_
    refine lv_if_ge (tgt := 23) hx hb dX7_bondAt_10 (by decide) (fun c4 => ?_) (fun c4 => ?_)
    · have hf := (if_pos c4).mp hf
      refine lv_iload_n hx hb dX7_bondAt_23 rfl (lv_at hl 0 rfl) ?_
      exact vx_ret (q_retI X hH hr hlk hf (Nat.le_trans (Nat.le_add_right _ _) hB.1) (Nat.le_trans (Nat.le_add_right _ _) hB.2) dX7_bondAt_24)
    · have hf := (if_neg c4).mp hf
      exact q_throwX (by decide +kernel) (by decide +kernel) (by decide +kernel) (by decide +kernel) X hH hl hB rfl rfl hst (hGE _ _ _ X.2.2.2.2) hf tw_518 tw_49 (text := "there is no such bond") (List.mem_of_getElem? (i := 13) rfl) xa_NoSuchElementException xg_NoSuchElementException (by decide +kernel) (by decide +kernel) dX7_bondAt_13 dX7_bondAt_16 dX7_bondAt_17 dX7_bondAt_19 dX7_bondAt_22 htab ⟨Nat.le_of_ble_eq_true rfl, Nat.le_of_ble_eq_true rfl⟩ (Nat.le_of_ble_eq_true rfl) hlk
  exact main s.heap [] ls 0 0 mc ms hf hH hl ⟨by omega, by omega⟩
-- X7_heaviest
def f_X7_heaviest (S : PS) (a0 : Nat) (bc bs : Nat) (post : Int32 → PS → Prop) (postX : String → PS → Prop) : Prop :=
  gR S a0 11 0 fun v1 => (
  isO S v1 10 (
  f_X6_heaviestBond S v1 fun v3 S2 => (
  if 0 ≤ v3 then
    post v3 S2
  else
    tX S2 "java/util/NoSuchElementException" bc bs postX)))
abbrev rm_X7_heaviest (mc ms : Nat) : Room := { frames := 6, cells := mc, slots := ms, locals := 90 }
set_option maxHeartbeats 4000000 in
set_option maxRecDepth 100000 in
theorem c_X7_heaviest (l : Launch) (D : va_G) (cy : Nat → ClassId) (G : p_GT) (hG : p_ok G) (hst : l.stackTraces = false) (hGE : ∀ (A : Nat → Prop) (U : State) (H : Heap), G A U H → p_Ex A U H) (S : PS) (a0 : Nat) (mc ms : Nat) (post : Int32 → PS → Prop) (postX : String → PS → Prop) (sz : Nat) (hf : f_X7_heaviest S a0 mc ms post postX) : p_Xi l D cy G S sz yX7_heaviest (Cond.code yX7_heaviest cX7_heaviest 2 (some .int) :: wG) (rm_X7_heaviest mc ms) [.ref a0] mc ms post postX := by
  refine q_startX hG (Qc := fun A => va_Qi post (p_Post D cy A) A) (XC := fun A => p_XC D cy A postX) mf_X7_heaviest (Nat.le_of_ble_eq_true rfl) (own := RX7) rfl ?_
  intro p e s m below meth c A X hr hlk hnm htab ls hl hH
  have hx := X.1.1
  have hb := X.1.2.1
  replace hl : lv_has ls 2 [(0, .ref a0)] := hl
  have main : ∀ (H : Heap) (locs : List Loc) (ls : Array Slot) (cells slots bc bs : Nat), f_X7_heaviest S a0 bc bs post postX → p_H D cy S A s H locs → lv_has ls 2 [(0, .ref a0)] → cells + bc ≤ mc ∧ slots + bs ≤ ms → W p l e (rm_X7_heaviest mc ms) s m [.ref a0].toArray below meth c H locs cells slots (vx_MQ below (va_Qi post (p_Post D cy A) A) (p_XC D cy A postX) [.ref a0].toArray s mc ms A) (F0 m 0 ls []) := by
    intro H locs ls cells slots bc bs hf hH hl hB
    refine lv_aload_n hx hb dX7_heaviest_0 rfl (lv_at hl 0 rfl) ?_
    refine q_getR (T := TX7) (N := 12) X hH hf iw_X7 rfl (by decide) tw_253 (fun _ h => h) dX7_heaviest_1 (fun v1 hf => ?_)
    obtain ⟨hb1, hb2, hf⟩ := hf
    refine q_backI0 X hH (q_runV [] [] X hH hl (c_X6_heaviestBond l D cy G X.2.2.2.1 S v1 _ _ hf) mf_X6_heaviestBond mv_X6_heaviestBond tw_965 ⟨Nat.le_of_ble_eq_true rfl, Nat.le_of_ble_eq_true rfl⟩ hb1 hb2 (T := TX6) (N := 6) rfl rfl (Nat.le_of_ble_eq_true rfl) dX7_heaviest_4 ⟨Nat.le_trans (Nat.le_add_right _ _) hB.1, Nat.le_trans (Nat.le_add_right _ _) hB.2⟩) (fun v3 S2 hf H locs hH => ?_)
    refine lv_istore_n (lv' := [(1, .int v3), (0, .ref a0)]) hx hb dX7_heaviest_7 rfl hl (by decide) rfl (fun ls hl => ?_)
    refine lv_iload_n hx hb dX7_heaviest_8 rfl (lv_at hl 0 rfl) ?_
    refine lv_if_ge (tgt := 22) hx hb dX7_heaviest_9 (by decide) (fun c4 => ?_) (fun c4 => ?_)
    · have hf := (if_pos c4).mp hf
      refine lv_iload_n hx hb dX7_heaviest_22 rfl (lv_at hl 0 rfl) ?_
      exact vx_ret (q_retI X hH hr hlk hf (Nat.le_trans (Nat.le_add_right _ _) hB.1) (Nat.le_trans (Nat.le_add_right _ _) hB.2) dX7_heaviest_23)
    · have hf := (if_neg c4).mp hf
      exact q_throwX (by decide +kernel) (by decide +kernel) (by decide +kernel) (by decide +kernel) X hH hl hB rfl rfl hst (hGE _ _ _ X.2.2.2.2) hf tw_518 tw_49 (text := "there are no bonds") (List.mem_of_getElem? (i := 14) rfl) xa_NoSuchElementException xg_NoSuchElementException (by decide +kernel) (by decide +kernel) dX7_heaviest_12 dX7_heaviest_15 dX7_heaviest_16 dX7_heaviest_18 dX7_heaviest_21 htab ⟨Nat.le_of_ble_eq_true rfl, Nat.le_of_ble_eq_true rfl⟩ (Nat.le_of_ble_eq_true rfl) hlk
  exact main s.heap [] ls 0 0 mc ms hf hH hl ⟨by omega, by omega⟩
-- X7_reason
def f_X7_reason_J20 (post : Int32 → PS → Prop) (postX : String → PS → Prop) (S : PS) (bc bs : Nat) (l0 : Nat) (l1 : Int32) (l2 : Int32) : Prop :=
  gR S l0 11 8 fun v1 => (
  isO S v1 8 (
  f_X4_reaches S v1 l1 fun v3 S2 => (
  if v3 = 0 then
    tX S2 "java/util/NoSuchElementException" bc bs postX
  else
    gR S2 l0 11 8 fun v5 => (
    isO S2 v5 8 (
    f_X4_numberAt S2 v5 l1 l2 fun v7 S6 => (
    post v7 S6))))))
def f_X7_reason (S : PS) (a0 : Nat) (a1 : Int32) (a2 : Int32) (bc bs : Nat) (post : Int32 → PS → Prop) (postX : String → PS → Prop) : Prop :=
  if a1 = 0 then
    f_X7_reason_J20 post postX S bc bs a0 a1 a2
  else
    if a1 = 1 then
      f_X7_reason_J20 post postX S bc bs a0 a1 a2
    else
      tX S "java/lang/IllegalArgumentException" bc bs postX
abbrev rm_X7_reason (mc ms : Nat) : Room := { frames := 6, cells := mc, slots := ms, locals := 90 }
set_option maxHeartbeats 4000000 in
set_option maxRecDepth 100000 in
theorem c_X7_reason (l : Launch) (D : va_G) (cy : Nat → ClassId) (G : p_GT) (hG : p_ok G) (hst : l.stackTraces = false) (hGE : ∀ (A : Nat → Prop) (U : State) (H : Heap), G A U H → p_Ex A U H) (S : PS) (a0 : Nat) (a1 : Int32) (a2 : Int32) (mc ms : Nat) (post : Int32 → PS → Prop) (postX : String → PS → Prop) (sz : Nat) (hf : f_X7_reason S a0 a1 a2 mc ms post postX) : p_Xi l D cy G S sz yX7_reason (Cond.code yX7_reason cX7_reason 3 (some .int) :: wG) (rm_X7_reason mc ms) [.ref a0, .int a1, .int a2] mc ms post postX := by
  refine q_startX hG (Qc := fun A => va_Qi post (p_Post D cy A) A) (XC := fun A => p_XC D cy A postX) mf_X7_reason (Nat.le_of_ble_eq_true rfl) (own := RX7) rfl ?_
  intro p e s m below meth c A X hr hlk hnm htab ls hl hH
  have hx := X.1.1
  have hb := X.1.2.1
  replace hl : lv_has ls 3 [(0, .ref a0), (1, .int a1), (2, .int a2)] := hl
  have main : ∀ (H : Heap) (locs : List Loc) (ls : Array Slot) (cells slots bc bs : Nat), f_X7_reason S a0 a1 a2 bc bs post postX → p_H D cy S A s H locs → lv_has ls 3 [(0, .ref a0), (1, .int a1), (2, .int a2)] → cells + bc ≤ mc ∧ slots + bs ≤ ms → W p l e (rm_X7_reason mc ms) s m [.ref a0, .int a1, .int a2].toArray below meth c H locs cells slots (vx_MQ below (va_Qi post (p_Post D cy A) A) (p_XC D cy A postX) [.ref a0, .int a1, .int a2].toArray s mc ms A) (F0 m 0 ls []) := by
    intro H locs ls cells slots bc bs hf hH hl hB
    have hJ20 : ∀ (S : PS) (bc bs : Nat) (l0 : Nat) (l1 : Int32) (l2 : Int32), f_X7_reason_J20 post postX S bc bs l0 l1 l2 → ∀ (H : Heap) (locs : List Loc) (ls : Array Slot) (cells slots : Nat), p_H D cy S A s H locs → lv_has ls 3 [(0, .ref l0), (1, .int l1), (2, .int l2)] → cells + bc ≤ mc ∧ slots + bs ≤ ms → W p l e (rm_X7_reason mc ms) s m [.ref a0, .int a1, .int a2].toArray below meth c H locs cells slots (vx_MQ below (va_Qi post (p_Post D cy A) A) (p_XC D cy A postX) [.ref a0, .int a1, .int a2].toArray s mc ms A) (F0 m 20 ls []) := by
      intro S bc bs l0 l1 l2 hf H locs ls cells slots hH hl hB
      refine lv_aload_n hx hb dX7_reason_20 rfl (lv_at hl 0 rfl) ?_
      refine q_getR (T := TX7) (N := 12) X hH hf iw_X7 rfl (by decide) tw_261 (fun _ h => h) dX7_reason_21 (fun v1 hf => ?_)
      refine lv_iload_n hx hb dX7_reason_24 rfl (lv_at hl 1 rfl) ?_
      obtain ⟨hb1, hb2, hf⟩ := hf
      refine q_backI0 X hH (q_runV [.int l1] [] X hH hl (c_X4_reaches l D cy G X.2.2.2.1 S v1 l1 _ _ hf) mf_X4_reaches mv_X4_reaches tw_1082 ⟨Nat.le_of_ble_eq_true rfl, Nat.le_of_ble_eq_true rfl⟩ hb1 hb2 (T := TX4) (N := 4) rfl rfl (Nat.le_of_ble_eq_true rfl) dX7_reason_25 ⟨Nat.le_trans (Nat.le_add_right _ _) hB.1, Nat.le_trans (Nat.le_add_right _ _) hB.2⟩) (fun v3 S2 hf H locs hH => ?_)
      refine lv_if_ne (tgt := 42) hx hb dX7_reason_28 (by decide) (fun c4 => ?_) (fun c4 => ?_)
      · have hf := (if_neg c4).mp hf
        refine lv_aload_n hx hb dX7_reason_42 rfl (lv_at hl 0 rfl) ?_
        refine q_getR (T := TX7) (N := 12) X hH hf iw_X7 rfl (by decide) tw_261 (fun _ h => h) dX7_reason_43 (fun v5 hf => ?_)
        refine lv_iload_n hx hb dX7_reason_46 rfl (lv_at hl 1 rfl) ?_
        refine lv_iload_n hx hb dX7_reason_47 rfl (lv_at hl 2 rfl) ?_
        obtain ⟨hb1, hb2, hf⟩ := hf
        refine q_backI0 X hH (q_runV [.int l1, .int l2] [] X hH hl (c_X4_numberAt l D cy G X.2.2.2.1 S2 v5 l1 l2 _ _ hf) mf_X4_numberAt mv_X4_numberAt tw_1087 ⟨Nat.le_of_ble_eq_true rfl, Nat.le_of_ble_eq_true rfl⟩ hb1 hb2 (T := TX4) (N := 4) rfl rfl (Nat.le_of_ble_eq_true rfl) dX7_reason_48 ⟨Nat.le_trans (Nat.le_add_right _ _) hB.1, Nat.le_trans (Nat.le_add_right _ _) hB.2⟩) (fun v7 S6 hf H locs hH => ?_)
        exact vx_ret (q_retI X hH hr hlk hf (Nat.le_trans (Nat.le_add_right _ _) hB.1) (Nat.le_trans (Nat.le_add_right _ _) hB.2) dX7_reason_51)
      · have hf := (if_pos c4).mp hf
        exact q_throwXW (by decide +kernel) (by decide +kernel) (by decide +kernel) (by decide +kernel) X hH hl hB rfl rfl hst (hGE _ _ _ X.2.2.2.2) hf tw_518 tw_49 (text := "there is no such reason") (List.mem_of_getElem? (i := 17) rfl) xa_NoSuchElementException xg_NoSuchElementException (by decide +kernel) (by decide +kernel) dX7_reason_31 dX7_reason_34 dX7_reason_35 dX7_reason_38 dX7_reason_41 htab ⟨Nat.le_of_ble_eq_true rfl, Nat.le_of_ble_eq_true rfl⟩ (Nat.le_of_ble_eq_true rfl) hlk
    refine lv_iload_n hx hb dX7_reason_0 rfl (lv_at hl 1 rfl) ?_
    refine lv_if_eq (tgt := 20) hx hb dX7_reason_1 (by decide) (fun c1 => ?_) (fun c1 => ?_)
    · have hf := (if_pos c1).mp hf
      exact hJ20 S bc bs a0 a1 a2 hf H locs ls cells slots hH hl hB
    · have hf := (if_neg c1).mp hf
      refine lv_iload_n hx hb dX7_reason_4 rfl (lv_at hl 1 rfl) ?_
      refine lv_iconst (v := 1) hx hb dX7_reason_5 (by decide) ?_
      refine lv_icmp_eq (tgt := 20) hx hb dX7_reason_6 (by decide) (fun c2 => ?_) (fun c2 => ?_)
      · have hf := (if_pos c2).mp hf
        exact hJ20 S bc bs a0 a1 a2 hf H locs ls cells slots hH hl hB
      · have hf := (if_neg c2).mp hf
        exact q_throwW X hH hl hB rfl rfl hst (hGE _ _ _ X.2.2.2.2) hf tw_406 tw_48 (text := "the depth is not 0 or 1") (List.mem_of_getElem? (i := 16) rfl) xa_IllegalArgumentException xg_IllegalArgumentException (by decide +kernel) (by decide +kernel) dX7_reason_9 dX7_reason_12 dX7_reason_13 dX7_reason_16 dX7_reason_19 htab ⟨Nat.le_of_ble_eq_true rfl, Nat.le_of_ble_eq_true rfl⟩ (Nat.le_of_ble_eq_true rfl) hlk
  exact main s.heap [] ls 0 0 mc ms hf hH hl ⟨by omega, by omega⟩
-- X7_refusesIf
def f_X7_refusesIf (S : PS) (a0 : Nat) (a1 : Int32) (a2 : Int32) (a3 : Int32) (post : Int32 → PS → Prop) : Prop :=
  if a1 = 0 then
    nZ .boolean a1 (post a1 S)
  else
    gR S a0 11 8 fun v2 => (
    isO S v2 8 (
    f_X4_keep S v2 a2 a3 fun S3 => (
    nZ .boolean a1 (post a1 S3))))
abbrev rm_X7_refusesIf : Room := { frames := 1, cells := 0, slots := 0, locals := 22 }
set_option maxHeartbeats 4000000 in
set_option maxRecDepth 100000 in
theorem c_X7_refusesIf (l : Launch) (D : va_G) (cy : Nat → ClassId) (G : p_GT) (hG : p_ok G) (S : PS) (a0 : Nat) (a1 : Int32) (a2 : Int32) (a3 : Int32) (post : Int32 → PS → Prop) (sz : Nat) (hf : f_X7_refusesIf S a0 a1 a2 a3 post) : p_Mi l D cy G S sz yX7_refusesIf (Cond.code yX7_refusesIf cX7_refusesIf 4 (some .boolean) :: wG) rm_X7_refusesIf [.ref a0, .int a1, .int a2, .int a3] 0 0 post := by
  refine q_start hG (Qc := fun A => va_Qi post (p_Post D cy A) A) mf_X7_refusesIf (Nat.le_of_ble_eq_true rfl) (own := RX7) rfl ?_
  intro p e s m below meth c A X hr hlk hnm ls hl hH
  have hx := X.1.1
  have hb := X.1.2.1
  replace hl : lv_has ls 4 [(0, .ref a0), (1, .int a1), (2, .int a2), (3, .int a3)] := hl
  obtain ⟨H, hHe⟩ : ∃ H, H = s.heap := ⟨_, rfl⟩
  obtain ⟨locs, hlo⟩ : ∃ locs : List Loc, locs = [] := ⟨_, rfl⟩
  rw [← hHe, ← hlo] at hH
  show W p l e rm_X7_refusesIf s m [.ref a0, .int a1, .int a2, .int a3].toArray below meth c s.heap [] 0 0 _ _
  rw [← hHe, ← hlo]
  refine lv_iload_n hx hb dX7_refusesIf_0 rfl (lv_at hl 1 rfl) ?_
  refine lv_if_eq (tgt := 13) hx hb dX7_refusesIf_1 (by decide) (fun c1 => ?_) (fun c1 => ?_)
  · have hf := (if_pos c1).mp hf
    refine lv_iload_n hx hb dX7_refusesIf_13 rfl (lv_at hl 1 rfl) ?_
    exact q_retZ X hH hr hlk hf (Nat.zero_le _) (Nat.zero_le _) dX7_refusesIf_14
  · have hf := (if_neg c1).mp hf
    refine lv_aload_n hx hb dX7_refusesIf_4 rfl (lv_at hl 0 rfl) ?_
    refine q_getR (T := TX7) (N := 12) X hH hf iw_X7 rfl (by decide) tw_261 (fun _ h => h) dX7_refusesIf_5 (fun v2 hf => ?_)
    refine lv_iload_n hx hb dX7_refusesIf_8 rfl (lv_at hl 2 rfl) ?_
    refine lv_iload_n hx hb dX7_refusesIf_9 rfl (lv_at hl 3 rfl) ?_
    obtain ⟨hb1, hb2, hf⟩ := hf
    refine q_backV0 X hH (q_runV [.int a2, .int a3] [] X hH hl (c_X4_keep l D cy G X.2.2.2.1 S v2 a2 a3 _ _ hf) mf_X4_keep mv_X4_keep tw_997 ⟨Nat.le_of_ble_eq_true rfl, Nat.le_of_ble_eq_true rfl⟩ hb1 hb2 (T := TX4) (N := 4) rfl rfl (Nat.le_of_ble_eq_true rfl) dX7_refusesIf_10 ⟨Nat.le_of_ble_eq_true rfl, Nat.le_of_ble_eq_true rfl⟩) (fun S3 hf H locs hH => ?_)
    refine lv_iload_n hx hb dX7_refusesIf_13 rfl (lv_at hl 1 rfl) ?_
    exact q_retZ X hH hr hlk hf (Nat.zero_le _) (Nat.zero_le _) dX7_refusesIf_14
-- X7_isTooSmall
def f_X7_isTooSmall (S : PS) (a0 : Nat) (post : Int32 → PS → Prop) : Prop :=
  gR S a0 11 0 fun v1 => (
  gI S v1 10 1 fun v2 => (
  if 2 ≤ v2 then
    nZ .boolean 0 (post 0 S)
  else
    nZ .boolean 1 (post 1 S)))
abbrev rm_X7_isTooSmall : Room := { frames := 0, cells := 0, slots := 0, locals := 0 }
set_option maxHeartbeats 4000000 in
set_option maxRecDepth 100000 in
theorem c_X7_isTooSmall (l : Launch) (D : va_G) (cy : Nat → ClassId) (G : p_GT) (hG : p_ok G) (S : PS) (a0 : Nat) (post : Int32 → PS → Prop) (sz : Nat) (hf : f_X7_isTooSmall S a0 post) : p_Mi l D cy G S sz yX7_isTooSmall (Cond.code yX7_isTooSmall cX7_isTooSmall 1 (some .boolean) :: wG) rm_X7_isTooSmall [.ref a0] 0 0 post := by
  refine q_start hG (Qc := fun A => va_Qi post (p_Post D cy A) A) mf_X7_isTooSmall (Nat.le_of_ble_eq_true rfl) (own := RX7) rfl ?_
  intro p e s m below meth c A X hr hlk hnm ls hl hH
  have hx := X.1.1
  have hb := X.1.2.1
  replace hl : lv_has ls 1 [(0, .ref a0)] := hl
  obtain ⟨H, hHe⟩ : ∃ H, H = s.heap := ⟨_, rfl⟩
  obtain ⟨locs, hlo⟩ : ∃ locs : List Loc, locs = [] := ⟨_, rfl⟩
  rw [← hHe, ← hlo] at hH
  show W p l e rm_X7_isTooSmall s m [.ref a0].toArray below meth c s.heap [] 0 0 _ _
  rw [← hHe, ← hlo]
  refine lv_aload_n hx hb dX7_isTooSmall_0 rfl (lv_at hl 0 rfl) ?_
  refine q_getR (T := TX7) (N := 12) X hH hf iw_X7 rfl (by decide) tw_253 (fun _ h => h) dX7_isTooSmall_1 (fun v1 hf => ?_)
  refine q_getIN (T := TX6) (N := 6) X hH hf iw_X6 rfl (by decide) (List.mem_of_getElem? (i := 0) rfl) (fun _ h => h) dX7_isTooSmall_4 (fun v2 hf => ?_)
  refine lv_iconst (v := 2) hx hb dX7_isTooSmall_7 (by decide) ?_
  refine lv_icmp_ge (tgt := 15) hx hb dX7_isTooSmall_8 (by decide) (fun c3 => ?_) (fun c3 => ?_)
  · have hf := (if_pos c3).mp hf
    refine lv_iconst (v := 0) hx hb dX7_isTooSmall_15 (by decide) ?_
    exact q_retZ X hH hr hlk hf (Nat.zero_le _) (Nat.zero_le _) dX7_isTooSmall_16
  · have hf := (if_neg c3).mp hf
    refine lv_iconst (v := 1) hx hb dX7_isTooSmall_11 (by decide) ?_
    refine lv_goto (tgt := 16) hx hb dX7_isTooSmall_12 (by decide) ?_
    exact q_retZ X hH hr hlk hf (Nat.zero_le _) (Nat.zero_le _) dX7_isTooSmall_16
-- X7_hasPhase
def f_X7_hasPhase (S : PS) (a0 : Nat) (a1 : Int32) (post : Int32 → PS → Prop) : Prop :=
  if a1 < 0 then
    nZ .boolean 0 (post 0 S)
  else
    gR S a0 11 0 fun v2 => (
    isO S v2 10 (
    f_X6_phaseCount S v2 fun v4 S3 => (
    if v4 ≤ a1 then
      nZ .boolean 0 (post 0 S3)
    else
      nZ .boolean 1 (post 1 S3))))
abbrev rm_X7_hasPhase : Room := { frames := 1, cells := 0, slots := 0, locals := 20 }
set_option maxHeartbeats 4000000 in
set_option maxRecDepth 100000 in
theorem c_X7_hasPhase (l : Launch) (D : va_G) (cy : Nat → ClassId) (G : p_GT) (hG : p_ok G) (S : PS) (a0 : Nat) (a1 : Int32) (post : Int32 → PS → Prop) (sz : Nat) (hf : f_X7_hasPhase S a0 a1 post) : p_Mi l D cy G S sz yX7_hasPhase (Cond.code yX7_hasPhase cX7_hasPhase 2 (some .boolean) :: wG) rm_X7_hasPhase [.ref a0, .int a1] 0 0 post := by
  refine q_start hG (Qc := fun A => va_Qi post (p_Post D cy A) A) mf_X7_hasPhase (Nat.le_of_ble_eq_true rfl) (own := RX7) rfl ?_
  intro p e s m below meth c A X hr hlk hnm ls hl hH
  have hx := X.1.1
  have hb := X.1.2.1
  replace hl : lv_has ls 2 [(0, .ref a0), (1, .int a1)] := hl
  obtain ⟨H, hHe⟩ : ∃ H, H = s.heap := ⟨_, rfl⟩
  obtain ⟨locs, hlo⟩ : ∃ locs : List Loc, locs = [] := ⟨_, rfl⟩
  rw [← hHe, ← hlo] at hH
  show W p l e rm_X7_hasPhase s m [.ref a0, .int a1].toArray below meth c s.heap [] 0 0 _ _
  rw [← hHe, ← hlo]
  refine lv_iload_n hx hb dX7_hasPhase_0 rfl (lv_at hl 1 rfl) ?_
  refine lv_if_lt (tgt := 19) hx hb dX7_hasPhase_1 (by decide) (fun c1 => ?_) (fun c1 => ?_)
  · have hf := (if_pos c1).mp hf
    refine lv_iconst (v := 0) hx hb dX7_hasPhase_19 (by decide) ?_
    exact q_retZ X hH hr hlk hf (Nat.zero_le _) (Nat.zero_le _) dX7_hasPhase_20
  · have hf := (if_neg c1).mp hf
    refine lv_iload_n hx hb dX7_hasPhase_4 rfl (lv_at hl 1 rfl) ?_
    refine lv_aload_n hx hb dX7_hasPhase_5 rfl (lv_at hl 0 rfl) ?_
    refine q_getR (T := TX7) (N := 12) X hH hf iw_X7 rfl (by decide) tw_253 (fun _ h => h) dX7_hasPhase_6 (fun v2 hf => ?_)
    obtain ⟨hb1, hb2, hf⟩ := hf
    refine q_backI0 X hH (q_runV [] [.int a1] X hH hl (c_X6_phaseCount l D cy G X.2.2.2.1 S v2 _ _ hf) mf_X6_phaseCount mv_X6_phaseCount tw_444 ⟨Nat.le_of_ble_eq_true rfl, Nat.le_of_ble_eq_true rfl⟩ hb1 hb2 (T := TX6) (N := 6) rfl rfl (Nat.le_of_ble_eq_true rfl) dX7_hasPhase_9 ⟨Nat.le_of_ble_eq_true rfl, Nat.le_of_ble_eq_true rfl⟩) (fun v4 S3 hf H locs hH => ?_)
    refine lv_icmp_ge (tgt := 19) hx hb dX7_hasPhase_12 (by decide) (fun c5 => ?_) (fun c5 => ?_)
    · have hf := (if_pos c5).mp hf
      refine lv_iconst (v := 0) hx hb dX7_hasPhase_19 (by decide) ?_
      exact q_retZ X hH hr hlk hf (Nat.zero_le _) (Nat.zero_le _) dX7_hasPhase_20
    · have hf := (if_neg c5).mp hf
      refine lv_iconst (v := 1) hx hb dX7_hasPhase_15 (by decide) ?_
      refine lv_goto (tgt := 20) hx hb dX7_hasPhase_16 (by decide) ?_
      exact q_retZ X hH hr hlk hf (Nat.zero_le _) (Nat.zero_le _) dX7_hasPhase_20
-- X7_placeOf
def f_X7_placeOf_J74 (post : Int32 → PS → Prop) (g4 : PS → Nat → Int32 → Int32 → Int32 → Prop) (S : PS) (l0 : Nat) (l1 : Int32) (l2 : Int32) (l3 : Int32) : Prop :=
  g4 S l0 l1 l2 (l3 + 1)
def f_X7_placeOf_J64 (post : Int32 → PS → Prop) (g4 : PS → Nat → Int32 → Int32 → Int32 → Prop) (S : PS) (l0 : Nat) (l1 : Int32) (l2 : Int32) (l3 : Int32) (t0 : Int32) : Prop :=
  if t0 = 0 then
    f_X7_placeOf_J74 post g4 S l0 l1 l2 l3
  else
    f_X7_placeOf_J74 post g4 S l0 l1 (l2 + 1) l3
def f_X7_placeOf_J59 (post : Int32 → PS → Prop) (g4 : PS → Nat → Int32 → Int32 → Int32 → Prop) (S : PS) (l0 : Nat) (l1 : Int32) (l2 : Int32) (l3 : Int32) : Prop :=
  f_X7_placeOf_J64 post g4 S l0 l1 l2 l3 1
def f_X7_placeOf_J63 (post : Int32 → PS → Prop) (g4 : PS → Nat → Int32 → Int32 → Int32 → Prop) (S : PS) (l0 : Nat) (l1 : Int32) (l2 : Int32) (l3 : Int32) : Prop :=
  f_X7_placeOf_J64 post g4 S l0 l1 l2 l3 0
def f_X7_placeOf_L4 (post : Int32 → PS → Prop) : Nat → PS → Nat → Int32 → Int32 → Int32 → Prop
  | 0, _, _, _, _, _ => False
  | n + 1, S, l0, l1, l2, l3 =>
  gR S l0 11 0 fun v1 => (
  gI S v1 10 1 fun v2 => (
  if v2 ≤ l3 then
    post l2 S
  else
    gR S l0 11 10 fun v4 => (
    lE S v4 fun v5 => (
    if v5 ≤ l3 then
      post l2 S
    else
      gR S l0 11 10 fun v7 => (
      aI S v7 0 l3 fun v8 => (
      gR S l0 11 10 fun v9 => (
      aI S v9 0 l1 fun v10 => (
      if v10 < v8 then
        f_X7_placeOf_J59 post (f_X7_placeOf_L4 post n) S l0 l1 l2 l3
      else
        gR S l0 11 10 fun v12 => (
        aI S v12 0 l3 fun v13 => (
        gR S l0 11 10 fun v14 => (
        aI S v14 0 l1 fun v15 => (
        if v13 = v15 then
          if l1 ≤ l3 then
            f_X7_placeOf_J63 post (f_X7_placeOf_L4 post n) S l0 l1 l2 l3
          else
            f_X7_placeOf_J59 post (f_X7_placeOf_L4 post n) S l0 l1 l2 l3
        else
          f_X7_placeOf_J63 post (f_X7_placeOf_L4 post n) S l0 l1 l2 l3))))))))))))
def f_X7_placeOf (S : PS) (a0 : Nat) (a1 : Int32) (post : Int32 → PS → Prop) : Prop :=
  f_X7_placeOf_L4 post 4096 S a0 a1 0 0
abbrev rm_X7_placeOf : Room := { frames := 0, cells := 0, slots := 0, locals := 0 }
set_option maxHeartbeats 4000000 in
set_option maxRecDepth 100000 in
theorem c_X7_placeOf (l : Launch) (D : va_G) (cy : Nat → ClassId) (G : p_GT) (hG : p_ok G) (S : PS) (a0 : Nat) (a1 : Int32) (post : Int32 → PS → Prop) (sz : Nat) (hf : f_X7_placeOf S a0 a1 post) : p_Mi l D cy G S sz yX7_placeOf (Cond.code yX7_placeOf cX7_placeOf 5 (some .int) :: wG) rm_X7_placeOf [.ref a0, .int a1] 0 0 post := by
  refine q_start hG (Qc := fun A => va_Qi post (p_Post D cy A) A) mf_X7_placeOf (Nat.le_of_ble_eq_true rfl) (own := RX7) rfl ?_
  intro p e s m below meth c A X hr hlk hnm ls hl hH
  have hx := X.1.1
  have hb := X.1.2.1
  replace hl : lv_has ls 5 [(0, .ref a0), (1, .int a1)] := hl
  obtain ⟨H, hHe⟩ : ∃ H, H = s.heap := ⟨_, rfl⟩
  obtain ⟨locs, hlo⟩ : ∃ locs : List Loc, locs = [] := ⟨_, rfl⟩
  rw [← hHe, ← hlo] at hH
  show W p l e rm_X7_placeOf s m [.ref a0, .int a1].toArray below meth c s.heap [] 0 0 _ _
  rw [← hHe, ← hlo]
  have hL4 : ∀ (n4 : Nat) (S : PS) (l0 : Nat) (l1 : Int32) (l2 : Int32) (l3 : Int32), f_X7_placeOf_L4 post n4 S l0 l1 l2 l3 → ∀ (H : Heap) (locs : List Loc) (ls : Array Slot), p_H D cy S A s H locs → lv_has ls 5 [(0, .ref l0), (1, .int l1), (2, .int l2), (3, .int l3)] → W p l e rm_X7_placeOf s m [.ref a0, .int a1].toArray below meth c H locs 0 0 (MQ below (va_Qi post (p_Post D cy A) A) [.ref a0, .int a1].toArray s 0 0 A) (F0 m 4 ls []) := by
    intro n4
    induction n4 with
    | zero => intro S l0 l1 l2 l3 hf; exact hf.elim
    | succ n4 ih4 =>
      intro S l0 l1 l2 l3 hf H locs ls hH hl
      have hJ64 : ∀ (S : PS) (l0 : Nat) (l1 : Int32) (l2 : Int32) (l3 : Int32) (t0 : Int32), f_X7_placeOf_J64 post (f_X7_placeOf_L4 post n4) S l0 l1 l2 l3 t0 → ∀ (H : Heap) (locs : List Loc) (ls : Array Slot), p_H D cy S A s H locs → lv_has ls 5 [(0, .ref l0), (1, .int l1), (2, .int l2), (3, .int l3)] → W p l e rm_X7_placeOf s m [.ref a0, .int a1].toArray below meth c H locs 0 0 (MQ below (va_Qi post (p_Post D cy A) A) [.ref a0, .int a1].toArray s 0 0 A) (F0 m 64 ls [.int t0]) := by
        intro S l0 l1 l2 l3 t0 hf H locs ls hH hl
        have hJ74 : ∀ (S : PS) (l0 : Nat) (l1 : Int32) (l2 : Int32) (l3 : Int32), f_X7_placeOf_J74 post (f_X7_placeOf_L4 post n4) S l0 l1 l2 l3 → ∀ (H : Heap) (locs : List Loc) (ls : Array Slot), p_H D cy S A s H locs → lv_has ls 5 [(0, .ref l0), (1, .int l1), (2, .int l2), (3, .int l3)] → W p l e rm_X7_placeOf s m [.ref a0, .int a1].toArray below meth c H locs 0 0 (MQ below (va_Qi post (p_Post D cy A) A) [.ref a0, .int a1].toArray s 0 0 A) (F0 m 74 ls []) := by
          intro S l0 l1 l2 l3 hf H locs ls hH hl
          refine lv_iinc (v := l3 + 1) (lv' := [(3, .int (l3 + 1)), (0, .ref l0), (1, .int l1), (2, .int l2)]) hx hb dX7_placeOf_74 hl (k := 3) rfl rfl (by decide) rfl (fun ls hl => ?_)
          refine lv_goto (tgt := 4) hx hb dX7_placeOf_77 (by decide) ?_
          exact ih4 S l0 l1 l2 (l3 + 1) hf H locs ls hH (lv_sub hl [1, 2, 3, 0] rfl)
        refine lv_istore (lv' := [(4, .int t0), (0, .ref l0), (1, .int l1), (2, .int l2), (3, .int l3)]) hx hb dX7_placeOf_64 hl (by decide) rfl (fun ls hl => ?_)
        refine lv_iload hx hb dX7_placeOf_66 (lv_at hl 0 rfl) ?_
        refine lv_if_eq (tgt := 74) hx hb dX7_placeOf_68 (by decide) (fun c1 => ?_) (fun c1 => ?_)
        · have hf := (if_pos c1).mp hf
          exact hJ74 S l0 l1 l2 l3 hf H locs ls hH (lv_sub hl [1, 2, 3, 4] rfl)
        · have hf := (if_neg c1).mp hf
          refine lv_iinc (v := l2 + 1) (lv' := [(2, .int (l2 + 1)), (4, .int t0), (0, .ref l0), (1, .int l1), (3, .int l3)]) hx hb dX7_placeOf_71 hl (k := 3) rfl rfl (by decide) rfl (fun ls hl => ?_)
          exact hJ74 S l0 l1 (l2 + 1) l3 hf H locs ls hH (lv_sub hl [2, 3, 0, 4] rfl)
      have hJ59 : ∀ (S : PS) (l0 : Nat) (l1 : Int32) (l2 : Int32) (l3 : Int32), f_X7_placeOf_J59 post (f_X7_placeOf_L4 post n4) S l0 l1 l2 l3 → ∀ (H : Heap) (locs : List Loc) (ls : Array Slot), p_H D cy S A s H locs → lv_has ls 5 [(0, .ref l0), (1, .int l1), (2, .int l2), (3, .int l3)] → W p l e rm_X7_placeOf s m [.ref a0, .int a1].toArray below meth c H locs 0 0 (MQ below (va_Qi post (p_Post D cy A) A) [.ref a0, .int a1].toArray s 0 0 A) (F0 m 59 ls []) := by
        intro S l0 l1 l2 l3 hf H locs ls hH hl
        refine lv_iconst (v := 1) hx hb dX7_placeOf_59 (by decide) ?_
        refine lv_goto (tgt := 64) hx hb dX7_placeOf_60 (by decide) ?_
        exact hJ64 S l0 l1 l2 l3 1 hf H locs ls hH hl
      have hJ63 : ∀ (S : PS) (l0 : Nat) (l1 : Int32) (l2 : Int32) (l3 : Int32), f_X7_placeOf_J63 post (f_X7_placeOf_L4 post n4) S l0 l1 l2 l3 → ∀ (H : Heap) (locs : List Loc) (ls : Array Slot), p_H D cy S A s H locs → lv_has ls 5 [(0, .ref l0), (1, .int l1), (2, .int l2), (3, .int l3)] → W p l e rm_X7_placeOf s m [.ref a0, .int a1].toArray below meth c H locs 0 0 (MQ below (va_Qi post (p_Post D cy A) A) [.ref a0, .int a1].toArray s 0 0 A) (F0 m 63 ls []) := by
        intro S l0 l1 l2 l3 hf H locs ls hH hl
        refine lv_iconst (v := 0) hx hb dX7_placeOf_63 (by decide) ?_
        exact hJ64 S l0 l1 l2 l3 0 hf H locs ls hH hl
      refine lv_iload_n hx hb dX7_placeOf_4 rfl (lv_at hl 3 rfl) ?_
      refine lv_aload_n hx hb dX7_placeOf_5 rfl (lv_at hl 0 rfl) ?_
      refine q_getR (T := TX7) (N := 12) X hH hf iw_X7 rfl (by decide) tw_253 (fun _ h => h) dX7_placeOf_6 (fun v1 hf => ?_)
      refine q_getIN (T := TX6) (N := 6) X hH hf iw_X6 rfl (by decide) (List.mem_of_getElem? (i := 0) rfl) (fun _ h => h) dX7_placeOf_9 (fun v2 hf => ?_)
      refine lv_icmp_ge (tgt := 80) hx hb dX7_placeOf_12 (by decide) (fun c3 => ?_) (fun c3 => ?_)
      · have hf := (if_pos c3).mp hf
        refine lv_iload_n hx hb dX7_placeOf_80 rfl (lv_at hl 2 rfl) ?_
        exact q_retI X hH hr hlk hf (Nat.zero_le _) (Nat.zero_le _) dX7_placeOf_81
      · have hf := (if_neg c3).mp hf
        refine lv_iload_n hx hb dX7_placeOf_15 rfl (lv_at hl 3 rfl) ?_
        refine lv_aload_n hx hb dX7_placeOf_16 rfl (lv_at hl 0 rfl) ?_
        refine q_getR (T := TX7) (N := 12) X hH hf iw_X7 rfl (by decide) tw_263 (fun _ h => h) dX7_placeOf_17 (fun v4 hf => ?_)
        refine q_alen X hH hf dX7_placeOf_20 (fun v5 hf => ?_)
        refine lv_icmp_ge (tgt := 80) hx hb dX7_placeOf_21 (by decide) (fun c6 => ?_) (fun c6 => ?_)
        · have hf := (if_pos c6).mp hf
          refine lv_iload_n hx hb dX7_placeOf_80 rfl (lv_at hl 2 rfl) ?_
          exact q_retI X hH hr hlk hf (Nat.zero_le _) (Nat.zero_le _) dX7_placeOf_81
        · have hf := (if_neg c6).mp hf
          refine lv_aload_n hx hb dX7_placeOf_24 rfl (lv_at hl 0 rfl) ?_
          refine q_getR (T := TX7) (N := 12) X hH hf iw_X7 rfl (by decide) tw_263 (fun _ h => h) dX7_placeOf_25 (fun v7 hf => ?_)
          refine lv_iload_n hx hb dX7_placeOf_28 rfl (lv_at hl 3 rfl) ?_
          refine q_iald X hH hf dX7_placeOf_29 (fun v8 hf => ?_)
          refine lv_aload_n hx hb dX7_placeOf_30 rfl (lv_at hl 0 rfl) ?_
          refine q_getR (T := TX7) (N := 12) X hH hf iw_X7 rfl (by decide) tw_263 (fun _ h => h) dX7_placeOf_31 (fun v9 hf => ?_)
          refine lv_iload_n hx hb dX7_placeOf_34 rfl (lv_at hl 1 rfl) ?_
          refine q_iald X hH hf dX7_placeOf_35 (fun v10 hf => ?_)
          refine lv_icmp_gt (tgt := 59) hx hb dX7_placeOf_36 (by decide) (fun c11 => ?_) (fun c11 => ?_)
          · have hf := (if_pos c11).mp hf
            exact hJ59 S l0 l1 l2 l3 hf H locs ls hH hl
          · have hf := (if_neg c11).mp hf
            refine lv_aload_n hx hb dX7_placeOf_39 rfl (lv_at hl 0 rfl) ?_
            refine q_getR (T := TX7) (N := 12) X hH hf iw_X7 rfl (by decide) tw_263 (fun _ h => h) dX7_placeOf_40 (fun v12 hf => ?_)
            refine lv_iload_n hx hb dX7_placeOf_43 rfl (lv_at hl 3 rfl) ?_
            refine q_iald X hH hf dX7_placeOf_44 (fun v13 hf => ?_)
            refine lv_aload_n hx hb dX7_placeOf_45 rfl (lv_at hl 0 rfl) ?_
            refine q_getR (T := TX7) (N := 12) X hH hf iw_X7 rfl (by decide) tw_263 (fun _ h => h) dX7_placeOf_46 (fun v14 hf => ?_)
            refine lv_iload_n hx hb dX7_placeOf_49 rfl (lv_at hl 1 rfl) ?_
            refine q_iald X hH hf dX7_placeOf_50 (fun v15 hf => ?_)
            refine lv_icmp_ne (tgt := 63) hx hb dX7_placeOf_51 (by decide) (fun c16 => ?_) (fun c16 => ?_)
            · have hf := (if_neg c16).mp hf
              exact hJ63 S l0 l1 l2 l3 hf H locs ls hH hl
            · have hf := (if_pos c16).mp hf
              refine lv_iload_n hx hb dX7_placeOf_54 rfl (lv_at hl 3 rfl) ?_
              refine lv_iload_n hx hb dX7_placeOf_55 rfl (lv_at hl 1 rfl) ?_
              refine lv_icmp_ge (tgt := 63) hx hb dX7_placeOf_56 (by decide) (fun c17 => ?_) (fun c17 => ?_)
              · have hf := (if_pos c17).mp hf
                exact hJ63 S l0 l1 l2 l3 hf H locs ls hH hl
              · have hf := (if_neg c17).mp hf
                exact hJ59 S l0 l1 l2 l3 hf H locs ls hH hl
  refine lv_iconst (v := 0) hx hb dX7_placeOf_0 (by decide) ?_
  refine lv_istore_n (lv' := [(2, .int 0), (0, .ref a0), (1, .int a1)]) hx hb dX7_placeOf_1 rfl hl (by decide) rfl (fun ls hl => ?_)
  refine lv_iconst (v := 0) hx hb dX7_placeOf_2 (by decide) ?_
  refine lv_istore_n (lv' := [(3, .int 0), (2, .int 0), (0, .ref a0), (1, .int a1)]) hx hb dX7_placeOf_3 rfl hl (by decide) rfl (fun ls hl => ?_)
  exact hL4 4096 S a0 a1 0 0 hf H locs ls hH (lv_sub hl [2, 3, 1, 0] rfl)
-- X7_isIn
def f_X7_isIn (S : PS) (a0 : Int32) (a1 : Int32) (post : Int32 → PS → Prop) : Prop :=
  if ((a0 >>> (a1 &&& 31)) &&& 1) = 1 then
    nZ .boolean 1 (post 1 S)
  else
    nZ .boolean 0 (post 0 S)
abbrev rm_X7_isIn : Room := { frames := 0, cells := 0, slots := 0, locals := 0 }
set_option maxHeartbeats 4000000 in
set_option maxRecDepth 100000 in
theorem c_X7_isIn (l : Launch) (D : va_G) (cy : Nat → ClassId) (G : p_GT) (hG : p_ok G) (S : PS) (a0 : Int32) (a1 : Int32) (post : Int32 → PS → Prop) (sz : Nat) (hf : f_X7_isIn S a0 a1 post) : p_Mi l D cy G S sz yX7_isIn (Cond.code yX7_isIn cX7_isIn 2 (some .boolean) :: wG) rm_X7_isIn [.int a0, .int a1] 0 0 post := by
  refine q_start hG (Qc := fun A => va_Qi post (p_Post D cy A) A) mf_X7_isIn (Nat.le_of_ble_eq_true rfl) (own := RX7) rfl ?_
  intro p e s m below meth c A X hr hlk hnm ls hl hH
  have hx := X.1.1
  have hb := X.1.2.1
  replace hl : lv_has ls 2 [(0, .int a0), (1, .int a1)] := hl
  obtain ⟨H, hHe⟩ : ∃ H, H = s.heap := ⟨_, rfl⟩
  obtain ⟨locs, hlo⟩ : ∃ locs : List Loc, locs = [] := ⟨_, rfl⟩
  rw [← hHe, ← hlo] at hH
  show W p l e rm_X7_isIn s m [.int a0, .int a1].toArray below meth c s.heap [] 0 0 _ _
  rw [← hHe, ← hlo]
  refine lv_iload_n hx hb dX7_isIn_0 rfl (lv_at hl 0 rfl) ?_
  refine lv_iload_n hx hb dX7_isIn_1 rfl (lv_at hl 1 rfl) ?_
  refine lv_ishr hx hb dX7_isIn_2 ?_
  refine lv_iconst (v := 1) hx hb dX7_isIn_3 (by decide) ?_
  refine lv_iand hx hb dX7_isIn_4 ?_
  refine lv_iconst (v := 1) hx hb dX7_isIn_5 (by decide) ?_
  refine lv_icmp_ne (tgt := 13) hx hb dX7_isIn_6 (by decide) (fun c1 => ?_) (fun c1 => ?_)
  · have hf := (if_neg c1).mp hf
    refine lv_iconst (v := 0) hx hb dX7_isIn_13 (by decide) ?_
    exact q_retZ X hH hr hlk hf (Nat.zero_le _) (Nat.zero_le _) dX7_isIn_14
  · have hf := (if_pos c1).mp hf
    refine lv_iconst (v := 1) hx hb dX7_isIn_9 (by decide) ?_
    refine lv_goto (tgt := 14) hx hb dX7_isIn_10 (by decide) ?_
    exact q_retZ X hH hr hlk hf (Nat.zero_le _) (Nat.zero_le _) dX7_isIn_14
-- X7_lowestOf
def f_X7_lowestOf_L2 (post : Int32 → PS → Prop) : Nat → PS → Int32 → Int32 → Prop
  | 0, _, _, _ => False
  | n + 1, S, l0, l1 =>
  if 9 ≤ l1 then
    post (-1) S
  else
    f_X7_isIn S l0 l1 fun v3 S2 => (
    if v3 = 0 then
      (f_X7_lowestOf_L2 post n) S2 l0 (l1 + 1)
    else
      post l1 S2)
def f_X7_lowestOf (S : PS) (a0 : Int32) (post : Int32 → PS → Prop) : Prop :=
  f_X7_lowestOf_L2 post 4096 S a0 0
abbrev rm_X7_lowestOf : Room := { frames := 1, cells := 0, slots := 0, locals := 21 }
set_option maxHeartbeats 4000000 in
set_option maxRecDepth 100000 in
theorem c_X7_lowestOf (l : Launch) (D : va_G) (cy : Nat → ClassId) (G : p_GT) (hG : p_ok G) (S : PS) (a0 : Int32) (post : Int32 → PS → Prop) (sz : Nat) (hf : f_X7_lowestOf S a0 post) : p_Mi l D cy G S sz yX7_lowestOf (Cond.code yX7_lowestOf cX7_lowestOf 2 (some .int) :: wG) rm_X7_lowestOf [.int a0] 0 0 post := by
  refine q_start hG (Qc := fun A => va_Qi post (p_Post D cy A) A) mf_X7_lowestOf (Nat.le_of_ble_eq_true rfl) (own := RX7) rfl ?_
  intro p e s m below meth c A X hr hlk hnm ls hl hH
  have hx := X.1.1
  have hb := X.1.2.1
  replace hl : lv_has ls 2 [(0, .int a0)] := hl
  obtain ⟨H, hHe⟩ : ∃ H, H = s.heap := ⟨_, rfl⟩
  obtain ⟨locs, hlo⟩ : ∃ locs : List Loc, locs = [] := ⟨_, rfl⟩
  rw [← hHe, ← hlo] at hH
  show W p l e rm_X7_lowestOf s m [.int a0].toArray below meth c s.heap [] 0 0 _ _
  rw [← hHe, ← hlo]
  have hL2 : ∀ (n2 : Nat) (S : PS) (l0 : Int32) (l1 : Int32), f_X7_lowestOf_L2 post n2 S l0 l1 → ∀ (H : Heap) (locs : List Loc) (ls : Array Slot), p_H D cy S A s H locs → lv_has ls 2 [(0, .int l0), (1, .int l1)] → W p l e rm_X7_lowestOf s m [.int a0].toArray below meth c H locs 0 0 (MQ below (va_Qi post (p_Post D cy A) A) [.int a0].toArray s 0 0 A) (F0 m 2 ls []) := by
    intro n2
    induction n2 with
    | zero => intro S l0 l1 hf; exact hf.elim
    | succ n2 ih2 =>
      intro S l0 l1 hf H locs ls hH hl
      refine lv_iload_n hx hb dX7_lowestOf_2 rfl (lv_at hl 1 rfl) ?_
      refine lv_bipush (v := 9) hx hb dX7_lowestOf_3 (by decide) ?_
      refine lv_icmp_ge (tgt := 24) hx hb dX7_lowestOf_5 (by decide) (fun c1 => ?_) (fun c1 => ?_)
      · have hf := (if_pos c1).mp hf
        refine lv_iconst (v := (-1)) hx hb dX7_lowestOf_24 (by decide) ?_
        exact q_retI X hH hr hlk hf (Nat.zero_le _) (Nat.zero_le _) dX7_lowestOf_25
      · have hf := (if_neg c1).mp hf
        refine lv_iload_n hx hb dX7_lowestOf_8 rfl (lv_at hl 0 rfl) ?_
        refine lv_iload_n hx hb dX7_lowestOf_9 rfl (lv_at hl 1 rfl) ?_
        refine q_backI0 X hH (q_runS [.int l0, .int l1] [] X hH hl (c_X7_isIn l D cy G X.2.2.2.1 S l0 l1 _ _ hf) mf_X7_isIn tw_372 tw_494 ⟨Nat.le_of_ble_eq_true rfl, Nat.le_of_ble_eq_true rfl⟩ rfl (Nat.le_of_ble_eq_true rfl) dX7_lowestOf_10 ⟨Nat.le_of_ble_eq_true rfl, Nat.le_of_ble_eq_true rfl⟩) (fun v3 S2 hf H locs hH => ?_)
        refine lv_if_eq (tgt := 18) hx hb dX7_lowestOf_13 (by decide) (fun c4 => ?_) (fun c4 => ?_)
        · have hf := (if_pos c4).mp hf
          refine lv_iinc (v := l1 + 1) (lv' := [(1, .int (l1 + 1)), (0, .int l0)]) hx hb dX7_lowestOf_18 hl (k := 1) rfl rfl (by decide) rfl (fun ls hl => ?_)
          refine lv_goto (tgt := 2) hx hb dX7_lowestOf_21 (by decide) ?_
          exact ih2 S2 l0 (l1 + 1) hf H locs ls hH (lv_sub hl [1, 0] rfl)
        · have hf := (if_neg c4).mp hf
          refine lv_iload_n hx hb dX7_lowestOf_16 rfl (lv_at hl 1 rfl) ?_
          exact q_retI X hH hr hlk hf (Nat.zero_le _) (Nat.zero_le _) dX7_lowestOf_17
  refine lv_iconst (v := 0) hx hb dX7_lowestOf_0 (by decide) ?_
  refine lv_istore_n (lv' := [(1, .int 0), (0, .int a0)]) hx hb dX7_lowestOf_1 rfl hl (by decide) rfl (fun ls hl => ?_)
  exact hL2 4096 S a0 0 hf H locs ls hH (lv_sub hl [1, 0] rfl)
-- X0_leastApart
def f_X0_leastApart_J52 (post : Int32 → PS → Prop) (g6 : PS → Nat → Int32 → Int32 → Int32 → Int32 → Prop) (S : PS) (l0 : Nat) (l1 : Int32) (l2 : Int32) (l3 : Int32) (l4 : Int32) : Prop :=
  g6 S l0 l1 l2 l3 (l4 + 1)
def f_X0_leastApart_L6 (post : Int32 → PS → Prop) : Nat → PS → Nat → Int32 → Int32 → Int32 → Int32 → Prop
  | 0, _, _, _, _, _, _ => False
  | n + 1, S, l0, l1, l2, l3, l4 =>
  gI S l0 4 1 fun v1 => (
  if v1 ≤ l4 then
    post l3 S
  else
    gR S l0 4 0 fun v3 => (
    lE S v3 fun v4 => (
    if v4 ≤ l4 then
      post l3 S
    else
      f_X7_isIn S l4 l1 fun v7 S6 => (
      f_X7_isIn S6 l4 l2 fun v9 S8 => (
      if v7 = v9 then
        f_X0_leastApart_J52 post (f_X0_leastApart_L6 post n) S8 l0 l1 l2 l3 l4
      else
        gR S8 l0 4 0 fun v11 => (
        aI S8 v11 0 l4 fun v12 => (
        f_X0_leastApart_J52 post (f_X0_leastApart_L6 post n) S8 l0 l1 l2 (if v12 < l3 then v12 else l3) l4)))))))
def f_X0_leastApart (S : PS) (a0 : Nat) (a1 : Int32) (a2 : Int32) (post : Int32 → PS → Prop) : Prop :=
  f_X0_leastApart_L6 post 4096 S a0 a1 a2 2147483647 1
abbrev rm_X0_leastApart : Room := { frames := 1, cells := 0, slots := 0, locals := 21 }
set_option maxHeartbeats 4000000 in
set_option maxRecDepth 100000 in
theorem c_X0_leastApart (l : Launch) (D : va_G) (cy : Nat → ClassId) (G : p_GT) (hG : p_ok G) (S : PS) (a0 : Nat) (a1 : Int32) (a2 : Int32) (post : Int32 → PS → Prop) (sz : Nat) (hf : f_X0_leastApart S a0 a1 a2 post) : p_Mi l D cy G S sz yX0_leastApart (Cond.code yX0_leastApart cX0_leastApart 5 (some .int) :: wG) rm_X0_leastApart [.ref a0, .int a1, .int a2] 0 0 post := by
  refine q_start hG (Qc := fun A => va_Qi post (p_Post D cy A) A) mf_X0_leastApart (Nat.le_of_ble_eq_true rfl) (own := RX0) rfl ?_
  intro p e s m below meth c A X hr hlk hnm ls hl hH
  have hx := X.1.1
  have hb := X.1.2.1
  replace hl : lv_has ls 5 [(0, .ref a0), (1, .int a1), (2, .int a2)] := hl
  obtain ⟨H, hHe⟩ : ∃ H, H = s.heap := ⟨_, rfl⟩
  obtain ⟨locs, hlo⟩ : ∃ locs : List Loc, locs = [] := ⟨_, rfl⟩
  rw [← hHe, ← hlo] at hH
  show W p l e rm_X0_leastApart s m [.ref a0, .int a1, .int a2].toArray below meth c s.heap [] 0 0 _ _
  rw [← hHe, ← hlo]
  have hL6 : ∀ (n6 : Nat) (S : PS) (l0 : Nat) (l1 : Int32) (l2 : Int32) (l3 : Int32) (l4 : Int32), f_X0_leastApart_L6 post n6 S l0 l1 l2 l3 l4 → ∀ (H : Heap) (locs : List Loc) (ls : Array Slot), p_H D cy S A s H locs → lv_has ls 5 [(0, .ref l0), (1, .int l1), (2, .int l2), (3, .int l3), (4, .int l4)] → W p l e rm_X0_leastApart s m [.ref a0, .int a1, .int a2].toArray below meth c H locs 0 0 (MQ below (va_Qi post (p_Post D cy A) A) [.ref a0, .int a1, .int a2].toArray s 0 0 A) (F0 m 6 ls []) := by
    intro n6
    induction n6 with
    | zero => intro S l0 l1 l2 l3 l4 hf; exact hf.elim
    | succ n6 ih6 =>
      intro S l0 l1 l2 l3 l4 hf H locs ls hH hl
      have hJ52 : ∀ (S : PS) (l0 : Nat) (l1 : Int32) (l2 : Int32) (l3 : Int32) (l4 : Int32), f_X0_leastApart_J52 post (f_X0_leastApart_L6 post n6) S l0 l1 l2 l3 l4 → ∀ (H : Heap) (locs : List Loc) (ls : Array Slot), p_H D cy S A s H locs → lv_has ls 5 [(0, .ref l0), (1, .int l1), (2, .int l2), (3, .int l3), (4, .int l4)] → W p l e rm_X0_leastApart s m [.ref a0, .int a1, .int a2].toArray below meth c H locs 0 0 (MQ below (va_Qi post (p_Post D cy A) A) [.ref a0, .int a1, .int a2].toArray s 0 0 A) (F0 m 52 ls []) := by
        intro S l0 l1 l2 l3 l4 hf H locs ls hH hl
        refine lv_iinc (v := l4 + 1) (lv' := [(4, .int (l4 + 1)), (0, .ref l0), (1, .int l1), (2, .int l2), (3, .int l3)]) hx hb dX0_leastApart_52 hl (k := 4) rfl rfl (by decide) rfl (fun ls hl => ?_)
        refine lv_goto (tgt := 6) hx hb dX0_leastApart_55 (by decide) ?_
        exact ih6 S l0 l1 l2 l3 (l4 + 1) hf H locs ls hH (lv_sub hl [1, 2, 3, 4, 0] rfl)
      refine lv_iload hx hb dX0_leastApart_6 (lv_at hl 4 rfl) ?_
      refine lv_aload_n hx hb dX0_leastApart_8 rfl (lv_at hl 0 rfl) ?_
      refine q_getI (T := TX0) (N := 2) X hH hf iw_X0 rfl (by decide) tw_149 (fun _ h => h) dX0_leastApart_9 (fun v1 hf => ?_)
      refine lv_icmp_ge (tgt := 58) hx hb dX0_leastApart_12 (by decide) (fun c2 => ?_) (fun c2 => ?_)
      · have hf := (if_pos c2).mp hf
        refine lv_iload_n hx hb dX0_leastApart_58 rfl (lv_at hl 3 rfl) ?_
        exact q_retI X hH hr hlk hf (Nat.zero_le _) (Nat.zero_le _) dX0_leastApart_59
      · have hf := (if_neg c2).mp hf
        refine lv_iload hx hb dX0_leastApart_15 (lv_at hl 4 rfl) ?_
        refine lv_aload_n hx hb dX0_leastApart_17 rfl (lv_at hl 0 rfl) ?_
        refine q_getR (T := TX0) (N := 2) X hH hf iw_X0 rfl (by decide) tw_148 (fun _ h => h) dX0_leastApart_18 (fun v3 hf => ?_)
        refine q_alen X hH hf dX0_leastApart_21 (fun v4 hf => ?_)
        refine lv_icmp_ge (tgt := 58) hx hb dX0_leastApart_22 (by decide) (fun c5 => ?_) (fun c5 => ?_)
        · have hf := (if_pos c5).mp hf
          refine lv_iload_n hx hb dX0_leastApart_58 rfl (lv_at hl 3 rfl) ?_
          exact q_retI X hH hr hlk hf (Nat.zero_le _) (Nat.zero_le _) dX0_leastApart_59
        · have hf := (if_neg c5).mp hf
          refine lv_iload hx hb dX0_leastApart_25 (lv_at hl 4 rfl) ?_
          refine lv_iload_n hx hb dX0_leastApart_27 rfl (lv_at hl 1 rfl) ?_
          refine q_backI0 X hH (q_runSN [.int l4, .int l1] [] X hH hl (c_X7_isIn l D cy G X.2.2.2.1 S l4 l1 _ _ hf) mf_X7_isIn tw_372 (List.mem_of_getElem? (i := 15) rfl) ⟨Nat.le_of_ble_eq_true rfl, Nat.le_of_ble_eq_true rfl⟩ rfl (Nat.le_of_ble_eq_true rfl) dX0_leastApart_28 ⟨Nat.le_of_ble_eq_true rfl, Nat.le_of_ble_eq_true rfl⟩) (fun v7 S6 hf H locs hH => ?_)
          refine lv_iload hx hb dX0_leastApart_31 (lv_at hl 4 rfl) ?_
          refine lv_iload_n hx hb dX0_leastApart_33 rfl (lv_at hl 2 rfl) ?_
          refine q_backI0 X hH (q_runSN [.int l4, .int l2] [.int v7] X hH hl (c_X7_isIn l D cy G X.2.2.2.1 S6 l4 l2 _ _ hf) mf_X7_isIn tw_372 (List.mem_of_getElem? (i := 15) rfl) ⟨Nat.le_of_ble_eq_true rfl, Nat.le_of_ble_eq_true rfl⟩ rfl (Nat.le_of_ble_eq_true rfl) dX0_leastApart_34 ⟨Nat.le_of_ble_eq_true rfl, Nat.le_of_ble_eq_true rfl⟩) (fun v9 S8 hf H locs hH => ?_)
          refine lv_icmp_eq (tgt := 52) hx hb dX0_leastApart_37 (by decide) (fun c10 => ?_) (fun c10 => ?_)
          · have hf := (if_pos c10).mp hf
            exact hJ52 S8 l0 l1 l2 l3 l4 hf H locs ls hH hl
          · have hf := (if_neg c10).mp hf
            refine lv_iload_n hx hb dX0_leastApart_40 rfl (lv_at hl 3 rfl) ?_
            refine lv_aload_n hx hb dX0_leastApart_41 rfl (lv_at hl 0 rfl) ?_
            refine q_getR (T := TX0) (N := 2) X hH hf iw_X0 rfl (by decide) tw_148 (fun _ h => h) dX0_leastApart_42 (fun v11 hf => ?_)
            refine lv_iload hx hb dX0_leastApart_45 (lv_at hl 4 rfl) ?_
            refine q_iald X hH hf dX0_leastApart_47 (fun v12 hf => ?_)
            refine q_mmin X hl tw_553 tw_496 tw_47 tw_497 ⟨Nat.le_of_ble_eq_true rfl, Nat.le_of_ble_eq_true rfl⟩ (Nat.le_of_ble_eq_true rfl) (Nat.zero_le _) (Nat.zero_le _) dX0_leastApart_48 ?_
            refine lv_istore_n (lv' := [(3, .int ((if v12 < l3 then v12 else l3))), (0, .ref l0), (1, .int l1), (2, .int l2), (4, .int l4)]) hx hb dX0_leastApart_51 rfl hl (by decide) rfl (fun ls hl => ?_)
            exact hJ52 S8 l0 l1 l2 (if v12 < l3 then v12 else l3) l4 hf H locs ls hH (lv_sub hl [1, 2, 3, 0, 4] rfl)
  refine lv_ldc (v := 2147483647) hx hb X.1.2.2.2.1 (X.1.2.2.2.2 _ tw_551) dX0_leastApart_0 ?_
  refine lv_istore_n (lv' := [(3, .int 2147483647), (0, .ref a0), (1, .int a1), (2, .int a2)]) hx hb dX0_leastApart_2 rfl hl (by decide) rfl (fun ls hl => ?_)
  refine lv_iconst (v := 1) hx hb dX0_leastApart_3 (by decide) ?_
  refine lv_istore (lv' := [(4, .int 1), (3, .int 2147483647), (0, .ref a0), (1, .int a1), (2, .int a2)]) hx hb dX0_leastApart_4 hl (by decide) rfl (fun ls hl => ?_)
  exact hL6 4096 S a0 a1 a2 2147483647 1 hf H locs ls hH (lv_sub hl [2, 3, 4, 1, 0] rfl)
-- X1_stepBack
def f_X1_stepBack (S : PS) (a0 : Nat) (a1 : Int32) (post : Int32 → PS → Prop) : Prop :=
  isO S a0 5 (
  f_X1_isThere S a0 a1 fun v2 S1 => (
  if v2 = 0 then
    post (-1) S1
  else
    gR S1 a0 5 1 fun v4 => (
    aI S1 v4 0 a1 fun v5 => (
    post v5 S1))))
abbrev rm_X1_stepBack : Room := { frames := 1, cells := 0, slots := 0, locals := 21 }
set_option maxHeartbeats 4000000 in
set_option maxRecDepth 100000 in
theorem c_X1_stepBack (l : Launch) (D : va_G) (cy : Nat → ClassId) (G : p_GT) (hG : p_ok G) (S : PS) (a0 : Nat) (a1 : Int32) (post : Int32 → PS → Prop) (sz : Nat) (hf : f_X1_stepBack S a0 a1 post) : p_Mi l D cy G S sz yX1_stepBack (Cond.code yX1_stepBack cX1_stepBack 2 (some .int) :: wG) rm_X1_stepBack [.ref a0, .int a1] 0 0 post := by
  refine q_start hG (Qc := fun A => va_Qi post (p_Post D cy A) A) mf_X1_stepBack (Nat.le_of_ble_eq_true rfl) (own := RX1) rfl ?_
  intro p e s m below meth c A X hr hlk hnm ls hl hH
  have hx := X.1.1
  have hb := X.1.2.1
  replace hl : lv_has ls 2 [(0, .ref a0), (1, .int a1)] := hl
  obtain ⟨H, hHe⟩ : ∃ H, H = s.heap := ⟨_, rfl⟩
  obtain ⟨locs, hlo⟩ : ∃ locs : List Loc, locs = [] := ⟨_, rfl⟩
  rw [← hHe, ← hlo] at hH
  show W p l e rm_X1_stepBack s m [.ref a0, .int a1].toArray below meth c s.heap [] 0 0 _ _
  rw [← hHe, ← hlo]
  refine lv_aload_n hx hb dX1_stepBack_0 rfl (lv_at hl 0 rfl) ?_
  refine lv_iload_n hx hb dX1_stepBack_1 rfl (lv_at hl 1 rfl) ?_
  obtain ⟨hb1, hb2, hf⟩ := hf
  refine q_backI0 X hH (q_runV [.int a1] [] X hH hl (c_X1_isThere l D cy G X.2.2.2.1 S a0 a1 _ _ hf) mf_X1_isThere mv_X1_isThere tw_572 ⟨Nat.le_of_ble_eq_true rfl, Nat.le_of_ble_eq_true rfl⟩ hb1 hb2 (T := TX1) (N := 3) rfl rfl (Nat.le_of_ble_eq_true rfl) dX1_stepBack_2 ⟨Nat.le_of_ble_eq_true rfl, Nat.le_of_ble_eq_true rfl⟩) (fun v2 S1 hf H locs hH => ?_)
  refine lv_if_eq (tgt := 17) hx hb dX1_stepBack_5 (by decide) (fun c3 => ?_) (fun c3 => ?_)
  · have hf := (if_pos c3).mp hf
    refine lv_iconst (v := (-1)) hx hb dX1_stepBack_17 (by decide) ?_
    exact q_retI X hH hr hlk hf (Nat.zero_le _) (Nat.zero_le _) dX1_stepBack_18
  · have hf := (if_neg c3).mp hf
    refine lv_aload_n hx hb dX1_stepBack_8 rfl (lv_at hl 0 rfl) ?_
    refine q_getR (T := TX1) (N := 3) X hH hf iw_X1 rfl (by decide) tw_162 (fun _ h => h) dX1_stepBack_9 (fun v4 hf => ?_)
    refine lv_iload_n hx hb dX1_stepBack_12 rfl (lv_at hl 1 rfl) ?_
    refine q_iald X hH hf dX1_stepBack_13 (fun v5 hf => ?_)
    refine lv_goto (tgt := 18) hx hb dX1_stepBack_14 (by decide) ?_
    exact q_retI X hH hr hlk hf (Nat.zero_le _) (Nat.zero_le _) dX1_stepBack_18
-- X1_roomOn
def f_X1_roomOn (S : PS) (a0 : Nat) (a1 : Int32) (a2 : Int32) (post : Int32 → PS → Prop) : Prop :=
  isO S a0 5 (
  f_X1_isThere S a0 a1 fun v2 S1 => (
  if v2 = 0 then
    post 0 S1
  else
    isO S1 a0 5 (
    f_X1_isThere S1 a0 a2 fun v5 S4 => (
    if v5 = 0 then
      post 0 S4
    else
      gR S4 a0 5 0 fun v7 => (
      aI S4 v7 0 ((a1 * 9) + a2) fun v8 => (
      post v8 S4))))))
abbrev rm_X1_roomOn : Room := { frames := 1, cells := 0, slots := 0, locals := 21 }
set_option maxHeartbeats 4000000 in
set_option maxRecDepth 100000 in
theorem c_X1_roomOn (l : Launch) (D : va_G) (cy : Nat → ClassId) (G : p_GT) (hG : p_ok G) (S : PS) (a0 : Nat) (a1 : Int32) (a2 : Int32) (post : Int32 → PS → Prop) (sz : Nat) (hf : f_X1_roomOn S a0 a1 a2 post) : p_Mi l D cy G S sz yX1_roomOn (Cond.code yX1_roomOn cX1_roomOn 3 (some .int) :: wG) rm_X1_roomOn [.ref a0, .int a1, .int a2] 0 0 post := by
  refine q_start hG (Qc := fun A => va_Qi post (p_Post D cy A) A) mf_X1_roomOn (Nat.le_of_ble_eq_true rfl) (own := RX1) rfl ?_
  intro p e s m below meth c A X hr hlk hnm ls hl hH
  have hx := X.1.1
  have hb := X.1.2.1
  replace hl : lv_has ls 3 [(0, .ref a0), (1, .int a1), (2, .int a2)] := hl
  obtain ⟨H, hHe⟩ : ∃ H, H = s.heap := ⟨_, rfl⟩
  obtain ⟨locs, hlo⟩ : ∃ locs : List Loc, locs = [] := ⟨_, rfl⟩
  rw [← hHe, ← hlo] at hH
  show W p l e rm_X1_roomOn s m [.ref a0, .int a1, .int a2].toArray below meth c s.heap [] 0 0 _ _
  rw [← hHe, ← hlo]
  refine lv_aload_n hx hb dX1_roomOn_0 rfl (lv_at hl 0 rfl) ?_
  refine lv_iload_n hx hb dX1_roomOn_1 rfl (lv_at hl 1 rfl) ?_
  obtain ⟨hb1, hb2, hf⟩ := hf
  refine q_backI0 X hH (q_runV [.int a1] [] X hH hl (c_X1_isThere l D cy G X.2.2.2.1 S a0 a1 _ _ hf) mf_X1_isThere mv_X1_isThere tw_572 ⟨Nat.le_of_ble_eq_true rfl, Nat.le_of_ble_eq_true rfl⟩ hb1 hb2 (T := TX1) (N := 3) rfl rfl (Nat.le_of_ble_eq_true rfl) dX1_roomOn_2 ⟨Nat.le_of_ble_eq_true rfl, Nat.le_of_ble_eq_true rfl⟩) (fun v2 S1 hf H locs hH => ?_)
  refine lv_if_eq (tgt := 30) hx hb dX1_roomOn_5 (by decide) (fun c3 => ?_) (fun c3 => ?_)
  · have hf := (if_pos c3).mp hf
    refine lv_iconst (v := 0) hx hb dX1_roomOn_30 (by decide) ?_
    exact q_retI X hH hr hlk hf (Nat.zero_le _) (Nat.zero_le _) dX1_roomOn_31
  · have hf := (if_neg c3).mp hf
    refine lv_aload_n hx hb dX1_roomOn_8 rfl (lv_at hl 0 rfl) ?_
    refine lv_iload_n hx hb dX1_roomOn_9 rfl (lv_at hl 2 rfl) ?_
    obtain ⟨hb1, hb2, hf⟩ := hf
    refine q_backI0 X hH (q_runV [.int a2] [] X hH hl (c_X1_isThere l D cy G X.2.2.2.1 S1 a0 a2 _ _ hf) mf_X1_isThere mv_X1_isThere tw_572 ⟨Nat.le_of_ble_eq_true rfl, Nat.le_of_ble_eq_true rfl⟩ hb1 hb2 (T := TX1) (N := 3) rfl rfl (Nat.le_of_ble_eq_true rfl) dX1_roomOn_10 ⟨Nat.le_of_ble_eq_true rfl, Nat.le_of_ble_eq_true rfl⟩) (fun v5 S4 hf H locs hH => ?_)
    refine lv_if_eq (tgt := 30) hx hb dX1_roomOn_13 (by decide) (fun c6 => ?_) (fun c6 => ?_)
    · have hf := (if_pos c6).mp hf
      refine lv_iconst (v := 0) hx hb dX1_roomOn_30 (by decide) ?_
      exact q_retI X hH hr hlk hf (Nat.zero_le _) (Nat.zero_le _) dX1_roomOn_31
    · have hf := (if_neg c6).mp hf
      refine lv_aload_n hx hb dX1_roomOn_16 rfl (lv_at hl 0 rfl) ?_
      refine q_getR (T := TX1) (N := 3) X hH hf iw_X1 rfl (by decide) tw_161 (fun _ h => h) dX1_roomOn_17 (fun v7 hf => ?_)
      refine lv_iload_n hx hb dX1_roomOn_20 rfl (lv_at hl 1 rfl) ?_
      refine lv_bipush (v := 9) hx hb dX1_roomOn_21 (by decide) ?_
      refine lv_imul hx hb dX1_roomOn_23 ?_
      refine lv_iload_n hx hb dX1_roomOn_24 rfl (lv_at hl 2 rfl) ?_
      refine lv_iadd hx hb dX1_roomOn_25 ?_
      refine q_iald X hH hf dX1_roomOn_26 (fun v8 hf => ?_)
      refine lv_goto (tgt := 31) hx hb dX1_roomOn_27 (by decide) ?_
      exact q_retI X hH hr hlk hf (Nat.zero_le _) (Nat.zero_le _) dX1_roomOn_31
-- X1_widen
def f_X1_widen (S : PS) (a0 : Nat) (a1 : Int32) (a2 : Int32) (a3 : Int32) (post : PS → Prop) : Prop :=
  isO S a0 5 (
  f_X1_isThere S a0 a1 fun v2 S1 => (
  if v2 = 0 then
    post S1
  else
    isO S1 a0 5 (
    f_X1_isThere S1 a0 a2 fun v5 S4 => (
    if v5 = 0 then
      post S4
    else
      gR S4 a0 5 0 fun v7 => (
      aI S4 v7 0 ((a1 * 9) + a2) fun v8 => (
      sI S4 v7 0 ((a1 * 9) + a2) (v8 + a3) fun S9 => (
      post S9)))))))
abbrev rm_X1_widen : Room := { frames := 1, cells := 0, slots := 0, locals := 21 }
set_option maxHeartbeats 4000000 in
set_option maxRecDepth 100000 in
theorem c_X1_widen (l : Launch) (D : va_G) (cy : Nat → ClassId) (G : p_GT) (hG : p_ok G) (S : PS) (a0 : Nat) (a1 : Int32) (a2 : Int32) (a3 : Int32) (post : PS → Prop) (sz : Nat) (hf : f_X1_widen S a0 a1 a2 a3 post) : p_Mv l D cy G S sz yX1_widen (Cond.code yX1_widen cX1_widen 4 none :: wG) rm_X1_widen [.ref a0, .int a1, .int a2, .int a3] 0 0 post := by
  refine q_start hG (Qc := fun A => va_Qv post (p_Post D cy A) A) mf_X1_widen (Nat.le_of_ble_eq_true rfl) (own := RX1) rfl ?_
  intro p e s m below meth c A X hr hlk hnm ls hl hH
  have hx := X.1.1
  have hb := X.1.2.1
  replace hl : lv_has ls 4 [(0, .ref a0), (1, .int a1), (2, .int a2), (3, .int a3)] := hl
  obtain ⟨H, hHe⟩ : ∃ H, H = s.heap := ⟨_, rfl⟩
  obtain ⟨locs, hlo⟩ : ∃ locs : List Loc, locs = [] := ⟨_, rfl⟩
  rw [← hHe, ← hlo] at hH
  show W p l e rm_X1_widen s m [.ref a0, .int a1, .int a2, .int a3].toArray below meth c s.heap [] 0 0 _ _
  rw [← hHe, ← hlo]
  refine lv_aload_n hx hb dX1_widen_0 rfl (lv_at hl 0 rfl) ?_
  refine lv_iload_n hx hb dX1_widen_1 rfl (lv_at hl 1 rfl) ?_
  obtain ⟨hb1, hb2, hf⟩ := hf
  refine q_backI0 X hH (q_runV [.int a1] [] X hH hl (c_X1_isThere l D cy G X.2.2.2.1 S a0 a1 _ _ hf) mf_X1_isThere mv_X1_isThere tw_572 ⟨Nat.le_of_ble_eq_true rfl, Nat.le_of_ble_eq_true rfl⟩ hb1 hb2 (T := TX1) (N := 3) rfl rfl (Nat.le_of_ble_eq_true rfl) dX1_widen_2 ⟨Nat.le_of_ble_eq_true rfl, Nat.le_of_ble_eq_true rfl⟩) (fun v2 S1 hf H locs hH => ?_)
  refine lv_if_eq (tgt := 31) hx hb dX1_widen_5 (by decide) (fun c3 => ?_) (fun c3 => ?_)
  · have hf := (if_pos c3).mp hf
    exact q_retV X hH hr hlk hf (Nat.zero_le _) (Nat.zero_le _) dX1_widen_31
  · have hf := (if_neg c3).mp hf
    refine lv_aload_n hx hb dX1_widen_8 rfl (lv_at hl 0 rfl) ?_
    refine lv_iload_n hx hb dX1_widen_9 rfl (lv_at hl 2 rfl) ?_
    obtain ⟨hb1, hb2, hf⟩ := hf
    refine q_backI0 X hH (q_runV [.int a2] [] X hH hl (c_X1_isThere l D cy G X.2.2.2.1 S1 a0 a2 _ _ hf) mf_X1_isThere mv_X1_isThere tw_572 ⟨Nat.le_of_ble_eq_true rfl, Nat.le_of_ble_eq_true rfl⟩ hb1 hb2 (T := TX1) (N := 3) rfl rfl (Nat.le_of_ble_eq_true rfl) dX1_widen_10 ⟨Nat.le_of_ble_eq_true rfl, Nat.le_of_ble_eq_true rfl⟩) (fun v5 S4 hf H locs hH => ?_)
    refine lv_if_eq (tgt := 31) hx hb dX1_widen_13 (by decide) (fun c6 => ?_) (fun c6 => ?_)
    · have hf := (if_pos c6).mp hf
      exact q_retV X hH hr hlk hf (Nat.zero_le _) (Nat.zero_le _) dX1_widen_31
    · have hf := (if_neg c6).mp hf
      refine lv_aload_n hx hb dX1_widen_16 rfl (lv_at hl 0 rfl) ?_
      refine q_getR (T := TX1) (N := 3) X hH hf iw_X1 rfl (by decide) tw_161 (fun _ h => h) dX1_widen_17 (fun v7 hf => ?_)
      refine lv_iload_n hx hb dX1_widen_20 rfl (lv_at hl 1 rfl) ?_
      refine lv_bipush (v := 9) hx hb dX1_widen_21 (by decide) ?_
      refine lv_imul hx hb dX1_widen_23 ?_
      refine lv_iload_n hx hb dX1_widen_24 rfl (lv_at hl 2 rfl) ?_
      refine lv_iadd hx hb dX1_widen_25 ?_
      refine lv_dup2_11 hx hb dX1_widen_26 rfl rfl ?_
      refine q_iald X hH hf dX1_widen_27 (fun v8 hf => ?_)
      refine lv_iload_n hx hb dX1_widen_28 rfl (lv_at hl 3 rfl) ?_
      refine lv_iadd hx hb dX1_widen_29 ?_
      refine q_iast X hH hf dX1_widen_30 (fun S9 hf H locs hH => ?_)
      exact q_retV X hH hr hlk hf (Nat.zero_le _) (Nat.zero_le _) dX1_widen_31
-- X2_keep
def f_X2_keep_J61 (post : PS → Prop) (S : PS) (bc bs : Nat) (l0 : Nat) (t0 : Int32) (t1 : Nat) : Prop :=
  pV S t1 6 1 (.int t0) fun S1 => (
  gI S1 l0 6 2 fun v2 => (
  pV S1 l0 6 2 (.int ((if 8 < (v2 + 1) then 8 else (v2 + 1)))) fun S3 => (
  post S3)))
def f_X2_keep_J28 (post : PS → Prop) (S : PS) (bc bs : Nat) (l0 : Nat) (l1 : Nat) : Prop :=
  gR S l0 6 0 fun v1 => (
  gI S l0 6 1 fun v2 => (
  aR S v1 v2 fun v3 => (
  isO S v3 10 (
  f_X6_copyFrom S v3 l1 fun S4 => (
  gI S4 l0 6 1 fun v6 => (
  if v6 = 7 then
    f_X2_keep_J61 post S4 bc bs l0 0 l0
  else
    gI S4 l0 6 1 fun v8 => (
    f_X2_keep_J61 post S4 bc bs l0 (v8 + 1) l0)))))))
def f_X2_keep (S : PS) (a0 : Nat) (a1 : Nat) (bc bs : Nat) (post : PS → Prop) : Prop :=
  gR S a0 6 0 fun v1 => (
  gI S a0 6 1 fun v2 => (
  aO S v1 v2 fun v3 => (
  match v3 with
  | none =>
    gR S a0 6 0 fun v5 => (
    gI S a0 6 1 fun v6 => (
    nO S 10 [.null, .int 0, .int 0, .int 0, .int 0, .int 0] 6 bc bs fun q7 S8 bc9 bs10 => (
    ∃ mc12 ms12 : Nat, mc12 ≤ bc9 ∧ ms12 ≤ bs10 ∧ (f_X6_init S8 q7 mc12 ms12 fun S11 => (
    sO S11 v5 v6 q7 fun S14 => (
    f_X2_keep_J28 post S14 (bc9 - mc12) (bs10 - ms12) a0 a1))))))
  | some _ =>
    f_X2_keep_J28 post S bc bs a0 a1)))
abbrev rm_X2_keep (mc ms : Nat) : Room := { frames := 2, cells := mc, slots := ms, locals := 81 }
set_option maxHeartbeats 4000000 in
set_option maxRecDepth 100000 in
theorem c_X2_keep (l : Launch) (D : va_G) (cy : Nat → ClassId) (G : p_GT) (hG : p_ok G) (S : PS) (a0 : Nat) (a1 : Nat) (mc ms : Nat) (post : PS → Prop) (sz : Nat) (hf : f_X2_keep S a0 a1 mc ms post) : p_Mv l D cy G S sz yX2_keep (Cond.code yX2_keep cX2_keep 2 none :: wG) (rm_X2_keep mc ms) [.ref a0, .ref a1] mc ms post := by
  refine q_start hG (Qc := fun A => va_Qv post (p_Post D cy A) A) mf_X2_keep (Nat.le_of_ble_eq_true rfl) (own := RX2) rfl ?_
  intro p e s m below meth c A X hr hlk hnm ls hl hH
  have hx := X.1.1
  have hb := X.1.2.1
  replace hl : lv_has ls 2 [(0, .ref a0), (1, .ref a1)] := hl
  have main : ∀ (H : Heap) (locs : List Loc) (ls : Array Slot) (cells slots bc bs : Nat), f_X2_keep S a0 a1 bc bs post → p_H D cy S A s H locs → lv_has ls 2 [(0, .ref a0), (1, .ref a1)] → cells + bc ≤ mc ∧ slots + bs ≤ ms → W p l e (rm_X2_keep mc ms) s m [.ref a0, .ref a1].toArray below meth c H locs cells slots (MQ below (va_Qv post (p_Post D cy A) A) [.ref a0, .ref a1].toArray s mc ms A) (F0 m 0 ls []) := by
    intro H locs ls cells slots bc bs hf hH hl hB
    have hJ28 : ∀ (S : PS) (bc bs : Nat) (l0 : Nat) (l1 : Nat), f_X2_keep_J28 post S bc bs l0 l1 → ∀ (H : Heap) (locs : List Loc) (ls : Array Slot) (cells slots : Nat), p_H D cy S A s H locs → lv_has ls 2 [(0, .ref l0), (1, .ref l1)] → cells + bc ≤ mc ∧ slots + bs ≤ ms → W p l e (rm_X2_keep mc ms) s m [.ref a0, .ref a1].toArray below meth c H locs cells slots (MQ below (va_Qv post (p_Post D cy A) A) [.ref a0, .ref a1].toArray s mc ms A) (F0 m 28 ls []) := by
      intro S bc bs l0 l1 hf H locs ls cells slots hH hl hB
      have hJ61 : ∀ (S : PS) (bc bs : Nat) (l0 : Nat) (t0 : Int32) (t1 : Nat), f_X2_keep_J61 post S bc bs l0 t0 t1 → ∀ (H : Heap) (locs : List Loc) (ls : Array Slot) (cells slots : Nat), p_H D cy S A s H locs → lv_has ls 2 [(0, .ref l0)] → cells + bc ≤ mc ∧ slots + bs ≤ ms → W p l e (rm_X2_keep mc ms) s m [.ref a0, .ref a1].toArray below meth c H locs cells slots (MQ below (va_Qv post (p_Post D cy A) A) [.ref a0, .ref a1].toArray s mc ms A) (F0 m 61 ls [.int t0, .ref t1]) := by
        intro S bc bs l0 t0 t1 hf H locs ls cells slots hH hl hB
        refine q_putV (T := TX2) (N := 3) (ty0 := tyX2) (ty := tyX2 1) X hH hf iw_X2 tyX2_ok nmX2 rfl (by decide) tw_108 (fun _ h => h) rfl (tyX2_ok 1 (by decide)) rfl rfl dX2_keep_61 (fun S1 hf H locs hH => ?_)
        refine lv_aload_n hx hb dX2_keep_64 rfl (lv_at hl 0 rfl) ?_
        refine lv_aload_n hx hb dX2_keep_65 rfl (lv_at hl 0 rfl) ?_
        refine q_getI (T := TX2) (N := 3) X hH hf iw_X2 rfl (by decide) tw_109 (fun _ h => h) dX2_keep_66 (fun v2 hf => ?_)
        refine lv_iconst (v := 1) hx hb dX2_keep_69 (by decide) ?_
        refine lv_iadd hx hb dX2_keep_70 ?_
        refine lv_bipush (v := 8) hx hb dX2_keep_71 (by decide) ?_
        refine q_mmin X hl tw_1039 tw_496 tw_47 tw_497 ⟨Nat.le_of_ble_eq_true rfl, Nat.le_of_ble_eq_true rfl⟩ (Nat.le_of_ble_eq_true rfl) (Nat.le_trans (Nat.le_add_right _ _) hB.1) (Nat.le_trans (Nat.le_add_right _ _) hB.2) dX2_keep_73 ?_
        refine q_putV (T := TX2) (N := 3) (ty0 := tyX2) (ty := tyX2 2) X hH hf iw_X2 tyX2_ok nmX2 rfl (by decide) tw_109 (fun _ h => h) rfl (tyX2_ok 2 (by decide)) rfl rfl dX2_keep_76 (fun S3 hf H locs hH => ?_)
        exact q_retV X hH hr hlk hf (Nat.le_trans (Nat.le_add_right _ _) hB.1) (Nat.le_trans (Nat.le_add_right _ _) hB.2) dX2_keep_79
      refine lv_aload_n hx hb dX2_keep_28 rfl (lv_at hl 0 rfl) ?_
      refine q_getR (T := TX2) (N := 3) X hH hf iw_X2 rfl (by decide) tw_107 (fun _ h => h) dX2_keep_29 (fun v1 hf => ?_)
      refine lv_aload_n hx hb dX2_keep_32 rfl (lv_at hl 0 rfl) ?_
      refine q_getI (T := TX2) (N := 3) X hH hf iw_X2 rfl (by decide) tw_108 (fun _ h => h) dX2_keep_33 (fun v2 hf => ?_)
      refine q_aaldR X hH hf dX2_keep_36 (fun v3 hf => ?_)
      refine lv_aload_n hx hb dX2_keep_37 rfl (lv_at hl 1 rfl) ?_
      obtain ⟨hb1, hb2, hf⟩ := hf
      refine q_backV0 X hH (q_runV [.ref l1] [] X hH hl (c_X6_copyFrom l D cy G X.2.2.2.1 S v3 l1 _ _ hf) mf_X6_copyFrom mv_X6_copyFrom tw_1034 ⟨Nat.le_of_ble_eq_true rfl, Nat.le_of_ble_eq_true rfl⟩ hb1 hb2 (T := TX6) (N := 6) rfl rfl (Nat.le_of_ble_eq_true rfl) dX2_keep_38 ⟨Nat.le_trans (Nat.le_add_right _ _) hB.1, Nat.le_trans (Nat.le_add_right _ _) hB.2⟩) (fun S4 hf H locs hH => ?_)
      refine lv_aload_n hx hb dX2_keep_41 rfl (lv_at hl 0 rfl) ?_
      refine lv_aload_n hx hb dX2_keep_42 rfl (lv_at hl 0 rfl) ?_
      refine q_getI (T := TX2) (N := 3) X hH hf iw_X2 rfl (by decide) tw_108 (fun _ h => h) dX2_keep_43 (fun v6 hf => ?_)
      refine lv_bipush (v := 7) hx hb dX2_keep_46 (by decide) ?_
      refine lv_icmp_ne (tgt := 55) hx hb dX2_keep_48 (by decide) (fun c7 => ?_) (fun c7 => ?_)
      · have hf := (if_neg c7).mp hf
        refine lv_aload_n hx hb dX2_keep_55 rfl (lv_at hl 0 rfl) ?_
        refine q_getI (T := TX2) (N := 3) X hH hf iw_X2 rfl (by decide) tw_108 (fun _ h => h) dX2_keep_56 (fun v8 hf => ?_)
        refine lv_iconst (v := 1) hx hb dX2_keep_59 (by decide) ?_
        refine lv_iadd hx hb dX2_keep_60 ?_
        exact hJ61 S4 bc bs l0 (v8 + 1) l0 hf H locs ls cells slots hH (lv_sub hl [0] rfl) hB
      · have hf := (if_pos c7).mp hf
        refine lv_iconst (v := 0) hx hb dX2_keep_51 (by decide) ?_
        refine lv_goto (tgt := 61) hx hb dX2_keep_52 (by decide) ?_
        exact hJ61 S4 bc bs l0 0 l0 hf H locs ls cells slots hH (lv_sub hl [0] rfl) hB
    refine lv_aload_n hx hb dX2_keep_0 rfl (lv_at hl 0 rfl) ?_
    refine q_getR (T := TX2) (N := 3) X hH hf iw_X2 rfl (by decide) tw_107 (fun _ h => h) dX2_keep_1 (fun v1 hf => ?_)
    refine lv_aload_n hx hb dX2_keep_4 rfl (lv_at hl 0 rfl) ?_
    refine q_getI (T := TX2) (N := 3) X hH hf iw_X2 rfl (by decide) tw_108 (fun _ h => h) dX2_keep_5 (fun v2 hf => ?_)
    refine q_aald X hH hf dX2_keep_8 (fun v3 hf => ?_)
    cases v3 with
    | none =>
      refine lv_ifnonnullN hx hb dX2_keep_9 ?_
      refine lv_aload_n hx hb dX2_keep_12 rfl (lv_at hl 0 rfl) ?_
      refine q_getR (T := TX2) (N := 3) X hH hf iw_X2 rfl (by decide) tw_107 (fun _ h => h) dX2_keep_13 (fun v5 hf => ?_)
      refine lv_aload_n hx hb dX2_keep_16 rfl (lv_at hl 0 rfl) ?_
      refine q_getI (T := TX2) (N := 3) X hH hf iw_X2 rfl (by decide) tw_108 (fun _ h => h) dX2_keep_17 (fun v6 hf => ?_)
      refine q_new (T := TX6) (N := 6) X hH hB hf iw_X6 tyX6 tyX6_ok rfl tw_105 tw_67 tw_31 (fun j hj => by rcases (show j = 0 ∨ j = 1 ∨ j = 2 ∨ j = 3 ∨ j = 4 ∨ j = 5 by omega) with rfl | rfl | rfl | rfl | rfl | rfl <;> rfl) dX2_keep_20 (fun q7 S8 bc9 bs10 hf H locs cells slots hH hB => ?_)
      refine lv_dup hx hb dX2_keep_23 rfl ?_
      obtain ⟨mc12, ms12, hm1, hs1, hf⟩ := hf
      refine q_backVB X hH hB hm1 hs1 (q_runIN [] [.ref q7, .int v6, .ref v5] X hH hl (c_X6_init l D cy G X.2.2.2.1 S8 q7 mc12 ms12 _ _ hf) mf_X6_init tw_69 (List.mem_of_getElem? (i := 17) rfl) ⟨Nat.le_of_ble_eq_true rfl, Nat.le_of_ble_eq_true rfl⟩ rfl (Nat.le_of_ble_eq_true rfl) dX2_keep_24 ⟨Nat.le_trans (Nat.add_le_add_left hm1 _) hB.1, Nat.le_trans (Nat.add_le_add_left hs1 _) hB.2⟩) (fun S11 hf H locs cells slots hH hB => ?_)
      refine q_aast X hH hf dX2_keep_27 (fun S14 hf H locs hH => ?_)
      exact hJ28 S14 (bc9 - mc12) (bs10 - ms12) a0 a1 hf H locs ls cells slots hH hl hB
    | some w4 =>
      refine lv_ifnonnull (tgt := 28) hx hb dX2_keep_9 (by decide) ?_
      exact hJ28 S bc bs a0 a1 hf H locs ls cells slots hH hl hB
  exact main s.heap [] ls 0 0 mc ms hf hH hl ⟨by omega, by omega⟩
