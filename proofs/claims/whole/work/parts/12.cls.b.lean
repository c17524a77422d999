-- X6_bondByIndex
def f_X6_bondByIndex_J58 (post : Int32 → PS → Prop) (g4 : PS → Nat → Int32 → Int32 → Int32 → Prop) (S : PS) (l0 : Nat) (l1 : Int32) (l2 : Int32) (l3 : Int32) : Prop :=
  g4 S l0 l1 l2 (l3 + 1)
def f_X6_bondByIndex_J52 (post : Int32 → PS → Prop) (g17 : PS → Nat → Int32 → Int32 → Int32 → Int32 → Prop) (S : PS) (l0 : Nat) (l1 : Int32) (l2 : Int32) (l3 : Int32) (l4 : Int32) : Prop :=
  g17 S l0 l1 l2 l3 (l4 + 1)
def f_X6_bondByIndex_J41 (post : Int32 → PS → Prop) (S : PS) (l3 : Int32) (l4 : Int32) : Prop :=
  post (((10 : Int32) * l3) + l4) S
def f_X6_bondByIndex_L17 (post : Int32 → PS → Prop) (g4 : PS → Nat → Int32 → Int32 → Int32 → Prop) : Nat → PS → Nat → Int32 → Int32 → Int32 → Int32 → Prop
  | 0, _, _, _, _, _, _ => False
  | n + 1, S, l0, l1, l2, l3, l4 =>
  gI S l0 10 1 fun v1 => (
  if v1 ≤ l4 then
    f_X6_bondByIndex_J58 post g4 S l0 l1 l2 l3
  else
    isO S l0 10 (
    f_X6_tie S l0 l3 l4 fun v4 S3 => (
    if v4 ≤ 0 then
      f_X6_bondByIndex_J52 post (f_X6_bondByIndex_L17 post g4 n) S3 l0 l1 l2 l3 l4
    else
      if l2 = l1 then
        f_X6_bondByIndex_J41 post S3 l3 l4
      else
        f_X6_bondByIndex_J52 post (f_X6_bondByIndex_L17 post g4 n) S3 l0 l1 (l2 + 1) l3 l4)))
def f_X6_bondByIndex_L4 (post : Int32 → PS → Prop) : Nat → PS → Nat → Int32 → Int32 → Int32 → Prop
  | 0, _, _, _, _, _ => False
  | n + 1, S, l0, l1, l2, l3 =>
  gI S l0 10 1 fun v1 => (
  if v1 ≤ l3 then
    post (-1) S
  else
    f_X6_bondByIndex_L17 post (f_X6_bondByIndex_L4 post n) 4096 S l0 l1 l2 l3 (l3 + 1))
def f_X6_bondByIndex (S : PS) (a0 : Nat) (a1 : Int32) (post : Int32 → PS → Prop) : Prop :=
  f_X6_bondByIndex_L4 post 4096 S a0 a1 0 0
abbrev rm_X6_bondByIndex : Room := { frames := 2, cells := 0, slots := 0, locals := 43 }
set_option maxHeartbeats 4000000 in
set_option maxRecDepth 100000 in
theorem c_X6_bondByIndex (l : Launch) (D : va_G) (cy : Nat → ClassId) (G : p_GT) (hG : p_ok G) (S : PS) (a0 : Nat) (a1 : Int32) (post : Int32 → PS → Prop) (sz : Nat) (hf : f_X6_bondByIndex S a0 a1 post) : p_Mi l D cy G S sz yX6_bondByIndex (Cond.code yX6_bondByIndex cX6_bondByIndex 5 (some .int) :: wG) rm_X6_bondByIndex [.ref a0, .int a1] 0 0 post := by
  refine q_start hG (Qc := fun A => va_Qi post (p_Post D cy A) A) mf_X6_bondByIndex (Nat.le_of_ble_eq_true rfl) (own := RX6) rfl ?_
  intro p e s m below meth c A X hr hlk hnm ls hl hH
  have hx := X.1.1
  have hb := X.1.2.1
  replace hl : lv_has ls 5 [(0, .ref a0), (1, .int a1)] := hl
  obtain ⟨H, hHe⟩ : ∃ H, H = s.heap := ⟨_, rfl⟩
  obtain ⟨locs, hlo⟩ : ∃ locs : List Loc, locs = [] := ⟨_, rfl⟩
  rw [← hHe, ← hlo] at hH
  show W p l e rm_X6_bondByIndex s m [.ref a0, .int a1].toArray below meth c s.heap [] 0 0 _ _
  rw [← hHe, ← hlo]
  have hL4 : ∀ (n4 : Nat) (S : PS) (l0 : Nat) (l1 : Int32) (l2 : Int32) (l3 : Int32), f_X6_bondByIndex_L4 post n4 S l0 l1 l2 l3 → ∀ (H : Heap) (locs : List Loc) (ls : Array Slot), p_H D cy S A s H locs → lv_has ls 5 [(0, .ref l0), (1, .int l1), (2, .int l2), (3, .int l3)] → W p l e rm_X6_bondByIndex s m [.ref a0, .int a1].toArray below meth c H locs 0 0 (MQ below (va_Qi post (p_Post D cy A) A) [.ref a0, .int a1].toArray s 0 0 A) (F0 m 4 ls []) := by
    intro n4
    induction n4 with
    | zero => intro S l0 l1 l2 l3 hf; exact hf.elim
    | succ n4 ih4 =>
      intro S l0 l1 l2 l3 hf H locs ls hH hl
      have hL17 : ∀ (n17 : Nat) (S : PS) (l0 : Nat) (l1 : Int32) (l2 : Int32) (l3 : Int32) (l4 : Int32), f_X6_bondByIndex_L17 post (f_X6_bondByIndex_L4 post n4) n17 S l0 l1 l2 l3 l4 → ∀ (H : Heap) (locs : List Loc) (ls : Array Slot), p_H D cy S A s H locs → lv_has ls 5 [(0, .ref l0), (1, .int l1), (2, .int l2), (3, .int l3), (4, .int l4)] → W p l e rm_X6_bondByIndex s m [.ref a0, .int a1].toArray below meth c H locs 0 0 (MQ below (va_Qi post (p_Post D cy A) A) [.ref a0, .int a1].toArray s 0 0 A) (F0 m 17 ls []) := by
        intro n17
        induction n17 with
        | zero => intro S l0 l1 l2 l3 l4 hf; exact hf.elim
        | succ n17 ih17 =>
          intro S l0 l1 l2 l3 l4 hf H locs ls hH hl
          have hJ58 : ∀ (S : PS) (l0 : Nat) (l1 : Int32) (l2 : Int32) (l3 : Int32), f_X6_bondByIndex_J58 post (f_X6_bondByIndex_L4 post n4) S l0 l1 l2 l3 → ∀ (H : Heap) (locs : List Loc) (ls : Array Slot), p_H D cy S A s H locs → lv_has ls 5 [(0, .ref l0), (1, .int l1), (2, .int l2), (3, .int l3)] → W p l e rm_X6_bondByIndex s m [.ref a0, .int a1].toArray below meth c H locs 0 0 (MQ below (va_Qi post (p_Post D cy A) A) [.ref a0, .int a1].toArray s 0 0 A) (F0 m 58 ls []) := by
            intro S l0 l1 l2 l3 hf H locs ls hH hl
            refine lv_iinc (v := l3 + 1) (lv' := [(3, .int (l3 + 1)), (0, .ref l0), (1, .int l1), (2, .int l2)]) hx hb dX6_bondByIndex_58 hl (k := 3) rfl rfl (by decide) rfl (fun ls hl => ?_)
            refine lv_goto (tgt := 4) hx hb dX6_bondByIndex_61 (by decide) ?_
            exact ih4 S l0 l1 l2 (l3 + 1) hf H locs ls hH (lv_sub hl [1, 2, 3, 0] rfl)
          have hJ52 : ∀ (S : PS) (l0 : Nat) (l1 : Int32) (l2 : Int32) (l3 : Int32) (l4 : Int32), f_X6_bondByIndex_J52 post (f_X6_bondByIndex_L17 post (f_X6_bondByIndex_L4 post n4) n17) S l0 l1 l2 l3 l4 → ∀ (H : Heap) (locs : List Loc) (ls : Array Slot), p_H D cy S A s H locs → lv_has ls 5 [(0, .ref l0), (1, .int l1), (2, .int l2), (3, .int l3), (4, .int l4)] → W p l e rm_X6_bondByIndex s m [.ref a0, .int a1].toArray below meth c H locs 0 0 (MQ below (va_Qi post (p_Post D cy A) A) [.ref a0, .int a1].toArray s 0 0 A) (F0 m 52 ls []) := by
            intro S l0 l1 l2 l3 l4 hf H locs ls hH hl
            refine lv_iinc (v := l4 + 1) (lv' := [(4, .int (l4 + 1)), (0, .ref l0), (1, .int l1), (2, .int l2), (3, .int l3)]) hx hb dX6_bondByIndex_52 hl (k := 4) rfl rfl (by decide) rfl (fun ls hl => ?_)
            refine lv_goto (tgt := 17) hx hb dX6_bondByIndex_55 (by decide) ?_
            exact ih17 S l0 l1 l2 l3 (l4 + 1) hf H locs ls hH (lv_sub hl [1, 2, 3, 4, 0] rfl)
          have hJ41 : ∀ (S : PS) (l3 : Int32) (l4 : Int32), f_X6_bondByIndex_J41 post S l3 l4 → ∀ (H : Heap) (locs : List Loc) (ls : Array Slot), p_H D cy S A s H locs → lv_has ls 5 [(3, .int l3), (4, .int l4)] → W p l e rm_X6_bondByIndex s m [.ref a0, .int a1].toArray below meth c H locs 0 0 (MQ below (va_Qi post (p_Post D cy A) A) [.ref a0, .int a1].toArray s 0 0 A) (F0 m 41 ls []) := by
            intro S l3 l4 hf H locs ls hH hl
            refine lv_bipush (v := 10) hx hb dX6_bondByIndex_41 (by decide) ?_
            refine lv_iload_n hx hb dX6_bondByIndex_43 rfl (lv_at hl 0 rfl) ?_
            refine lv_imul hx hb dX6_bondByIndex_44 ?_
            refine lv_iload hx hb dX6_bondByIndex_45 (lv_at hl 1 rfl) ?_
            refine lv_iadd hx hb dX6_bondByIndex_47 ?_
            exact q_retI X hH hr hlk hf (Nat.zero_le _) (Nat.zero_le _) dX6_bondByIndex_48
          refine lv_iload hx hb dX6_bondByIndex_17 (lv_at hl 4 rfl) ?_
          refine lv_aload_n hx hb dX6_bondByIndex_19 rfl (lv_at hl 0 rfl) ?_
          refine q_getI (T := TX6) (N := 6) X hH hf iw_X6 rfl (by decide) tw_139 (fun _ h => h) dX6_bondByIndex_20 (fun v1 hf => ?_)
          refine lv_icmp_ge (tgt := 58) hx hb dX6_bondByIndex_23 (by decide) (fun c2 => ?_) (fun c2 => ?_)
          · have hf := (if_pos c2).mp hf
            exact hJ58 S l0 l1 l2 l3 hf H locs ls hH (lv_sub hl [0, 1, 2, 3] rfl)
          · have hf := (if_neg c2).mp hf
            refine lv_aload_n hx hb dX6_bondByIndex_26 rfl (lv_at hl 0 rfl) ?_
            refine lv_iload_n hx hb dX6_bondByIndex_27 rfl (lv_at hl 3 rfl) ?_
            refine lv_iload hx hb dX6_bondByIndex_28 (lv_at hl 4 rfl) ?_
            obtain ⟨hb1, hb2, hf⟩ := hf
            refine q_backI0 X hH (q_runV [.int l3, .int l4] [] X hH hl (c_X6_tie l D cy G X.2.2.2.1 S l0 l3 l4 _ _ hf) mf_X6_tie mv_X6_tie tw_371 ⟨Nat.le_of_ble_eq_true rfl, Nat.le_of_ble_eq_true rfl⟩ hb1 hb2 (T := TX6) (N := 6) rfl rfl (Nat.le_of_ble_eq_true rfl) dX6_bondByIndex_30 ⟨Nat.le_of_ble_eq_true rfl, Nat.le_of_ble_eq_true rfl⟩) (fun v4 S3 hf H locs hH => ?_)
            refine lv_if_le (tgt := 52) hx hb dX6_bondByIndex_33 (by decide) (fun c5 => ?_) (fun c5 => ?_)
            · have hf := (if_pos c5).mp hf
              exact hJ52 S3 l0 l1 l2 l3 l4 hf H locs ls hH hl
            · have hf := (if_neg c5).mp hf
              refine lv_iload_n hx hb dX6_bondByIndex_36 rfl (lv_at hl 2 rfl) ?_
              refine lv_iload_n hx hb dX6_bondByIndex_37 rfl (lv_at hl 1 rfl) ?_
              refine lv_icmp_ne (tgt := 49) hx hb dX6_bondByIndex_38 (by decide) (fun c6 => ?_) (fun c6 => ?_)
              · have hf := (if_neg c6).mp hf
                refine lv_iinc (v := l2 + 1) (lv' := [(2, .int (l2 + 1)), (0, .ref l0), (1, .int l1), (3, .int l3), (4, .int l4)]) hx hb dX6_bondByIndex_49 hl (k := 2) rfl rfl (by decide) rfl (fun ls hl => ?_)
                exact hJ52 S3 l0 l1 (l2 + 1) l3 l4 hf H locs ls hH (lv_sub hl [1, 2, 0, 3, 4] rfl)
              · have hf := (if_pos c6).mp hf
                exact hJ41 S3 l3 l4 hf H locs ls hH (lv_sub hl [3, 4] rfl)
      refine lv_iload_n hx hb dX6_bondByIndex_4 rfl (lv_at hl 3 rfl) ?_
      refine lv_aload_n hx hb dX6_bondByIndex_5 rfl (lv_at hl 0 rfl) ?_
      refine q_getI (T := TX6) (N := 6) X hH hf iw_X6 rfl (by decide) tw_139 (fun _ h => h) dX6_bondByIndex_6 (fun v1 hf => ?_)
      refine lv_icmp_ge (tgt := 64) hx hb dX6_bondByIndex_9 (by decide) (fun c2 => ?_) (fun c2 => ?_)
      · have hf := (if_pos c2).mp hf
        refine lv_iconst (v := (-1)) hx hb dX6_bondByIndex_64 (by decide) ?_
        exact q_retI X hH hr hlk hf (Nat.zero_le _) (Nat.zero_le _) dX6_bondByIndex_65
      · have hf := (if_neg c2).mp hf
        refine lv_iload_n hx hb dX6_bondByIndex_12 rfl (lv_at hl 3 rfl) ?_
        refine lv_iconst (v := 1) hx hb dX6_bondByIndex_13 (by decide) ?_
        refine lv_iadd hx hb dX6_bondByIndex_14 ?_
        refine lv_istore (lv' := [(4, .int (l3 + 1)), (0, .ref l0), (1, .int l1), (2, .int l2), (3, .int l3)]) hx hb dX6_bondByIndex_15 hl (by decide) rfl (fun ls hl => ?_)
        exact hL17 4096 S l0 l1 l2 l3 (l3 + 1) hf H locs ls hH (lv_sub hl [1, 2, 3, 4, 0] rfl)
  refine lv_iconst (v := 0) hx hb dX6_bondByIndex_0 (by decide) ?_
  refine lv_istore_n (lv' := [(2, .int 0), (0, .ref a0), (1, .int a1)]) hx hb dX6_bondByIndex_1 rfl hl (by decide) rfl (fun ls hl => ?_)
  refine lv_iconst (v := 0) hx hb dX6_bondByIndex_2 (by decide) ?_
  refine lv_istore_n (lv' := [(3, .int 0), (2, .int 0), (0, .ref a0), (1, .int a1)]) hx hb dX6_bondByIndex_3 rfl hl (by decide) rfl (fun ls hl => ?_)
  exact hL4 4096 S a0 a1 0 0 hf H locs ls hH (lv_sub hl [2, 3, 1, 0] rfl)
-- X6_heaviestBond
def f_X6_heaviestBond_J61 (post : Int32 → PS → Prop) (g6 : PS → Nat → Int32 → Int32 → Int32 → Prop) (S : PS) (l0 : Nat) (l1 : Int32) (l2 : Int32) (l3 : Int32) : Prop :=
  g6 S l0 l1 l2 (l3 + 1)
def f_X6_heaviestBond_J55 (post : Int32 → PS → Prop) (g19 : PS → Nat → Int32 → Int32 → Int32 → Int32 → Prop) (S : PS) (l0 : Nat) (l1 : Int32) (l2 : Int32) (l3 : Int32) (l4 : Int32) : Prop :=
  g19 S l0 l1 l2 l3 (l4 + 1)
def f_X6_heaviestBond_L19 (post : Int32 → PS → Prop) (g6 : PS → Nat → Int32 → Int32 → Int32 → Prop) : Nat → PS → Nat → Int32 → Int32 → Int32 → Int32 → Prop
  | 0, _, _, _, _, _, _ => False
  | n + 1, S, l0, l1, l2, l3, l4 =>
  gI S l0 10 1 fun v1 => (
  if v1 ≤ l4 then
    f_X6_heaviestBond_J61 post g6 S l0 l1 l2 l3
  else
    isO S l0 10 (
    f_X6_tie S l0 l3 l4 fun v4 S3 => (
    if v4 ≤ l2 then
      f_X6_heaviestBond_J55 post (f_X6_heaviestBond_L19 post g6 n) S3 l0 l1 l2 l3 l4
    else
      isO S3 l0 10 (
      f_X6_tie S3 l0 l3 l4 fun v7 S6 => (
      f_X6_heaviestBond_J55 post (f_X6_heaviestBond_L19 post g6 n) S6 l0 (((10 : Int32) * l3) + l4) v7 l3 l4)))))
def f_X6_heaviestBond_L6 (post : Int32 → PS → Prop) : Nat → PS → Nat → Int32 → Int32 → Int32 → Prop
  | 0, _, _, _, _, _ => False
  | n + 1, S, l0, l1, l2, l3 =>
  gI S l0 10 1 fun v1 => (
  if v1 ≤ l3 then
    post l1 S
  else
    f_X6_heaviestBond_L19 post (f_X6_heaviestBond_L6 post n) 4096 S l0 l1 l2 l3 (l3 + 1))
def f_X6_heaviestBond (S : PS) (a0 : Nat) (post : Int32 → PS → Prop) : Prop :=
  f_X6_heaviestBond_L6 post 4096 S a0 (-1) 0 0
abbrev rm_X6_heaviestBond : Room := { frames := 2, cells := 0, slots := 0, locals := 43 }
set_option maxHeartbeats 4000000 in
set_option maxRecDepth 100000 in
theorem c_X6_heaviestBond (l : Launch) (D : va_G) (cy : Nat → ClassId) (G : p_GT) (hG : p_ok G) (S : PS) (a0 : Nat) (post : Int32 → PS → Prop) (sz : Nat) (hf : f_X6_heaviestBond S a0 post) : p_Mi l D cy G S sz yX6_heaviestBond (Cond.code yX6_heaviestBond cX6_heaviestBond 5 (some .int) :: wG) rm_X6_heaviestBond [.ref a0] 0 0 post := by
  refine q_start hG (Qc := fun A => va_Qi post (p_Post D cy A) A) mf_X6_heaviestBond (Nat.le_of_ble_eq_true rfl) (own := RX6) rfl ?_
  intro p e s m below meth c A X hr hlk hnm ls hl hH
  have hx := X.1.1
  have hb := X.1.2.1
  replace hl : lv_has ls 5 [(0, .ref a0)] := hl
  obtain ⟨H, hHe⟩ : ∃ H, H = s.heap := ⟨_, rfl⟩
  obtain ⟨locs, hlo⟩ : ∃ locs : List Loc, locs = [] := ⟨_, rfl⟩
  rw [← hHe, ← hlo] at hH
  show W p l e rm_X6_heaviestBond s m [.ref a0].toArray below meth c s.heap [] 0 0 _ _
  rw [← hHe, ← hlo]
  have hL6 : ∀ (n6 : Nat) (S : PS) (l0 : Nat) (l1 : Int32) (l2 : Int32) (l3 : Int32), f_X6_heaviestBond_L6 post n6 S l0 l1 l2 l3 → ∀ (H : Heap) (locs : List Loc) (ls : Array Slot), p_H D cy S A s H locs → lv_has ls 5 [(0, .ref l0), (1, .int l1), (2, .int l2), (3, .int l3)] → W p l e rm_X6_heaviestBond s m [.ref a0].toArray below meth c H locs 0 0 (MQ below (va_Qi post (p_Post D cy A) A) [.ref a0].toArray s 0 0 A) (F0 m 6 ls []) := by
    intro n6
    induction n6 with
    | zero => intro S l0 l1 l2 l3 hf; exact hf.elim
    | succ n6 ih6 =>
      intro S l0 l1 l2 l3 hf H locs ls hH hl
      have hL19 : ∀ (n19 : Nat) (S : PS) (l0 : Nat) (l1 : Int32) (l2 : Int32) (l3 : Int32) (l4 : Int32), f_X6_heaviestBond_L19 post (f_X6_heaviestBond_L6 post n6) n19 S l0 l1 l2 l3 l4 → ∀ (H : Heap) (locs : List Loc) (ls : Array Slot), p_H D cy S A s H locs → lv_has ls 5 [(0, .ref l0), (1, .int l1), (2, .int l2), (3, .int l3), (4, .int l4)] → W p l e rm_X6_heaviestBond s m [.ref a0].toArray below meth c H locs 0 0 (MQ below (va_Qi post (p_Post D cy A) A) [.ref a0].toArray s 0 0 A) (F0 m 19 ls []) := by
        intro n19
        induction n19 with
        | zero => intro S l0 l1 l2 l3 l4 hf; exact hf.elim
        | succ n19 ih19 =>
          intro S l0 l1 l2 l3 l4 hf H locs ls hH hl
          have hJ61 : ∀ (S : PS) (l0 : Nat) (l1 : Int32) (l2 : Int32) (l3 : Int32), f_X6_heaviestBond_J61 post (f_X6_heaviestBond_L6 post n6) S l0 l1 l2 l3 → ∀ (H : Heap) (locs : List Loc) (ls : Array Slot), p_H D cy S A s H locs → lv_has ls 5 [(0, .ref l0), (1, .int l1), (2, .int l2), (3, .int l3)] → W p l e rm_X6_heaviestBond s m [.ref a0].toArray below meth c H locs 0 0 (MQ below (va_Qi post (p_Post D cy A) A) [.ref a0].toArray s 0 0 A) (F0 m 61 ls []) := by
            intro S l0 l1 l2 l3 hf H locs ls hH hl
            refine lv_iinc (v := l3 + 1) (lv' := [(3, .int (l3 + 1)), (0, .ref l0), (1, .int l1), (2, .int l2)]) hx hb dX6_heaviestBond_61 hl (k := 3) rfl rfl (by decide) rfl (fun ls hl => ?_)
            refine lv_goto (tgt := 6) hx hb dX6_heaviestBond_64 (by decide) ?_
            exact ih6 S l0 l1 l2 (l3 + 1) hf H locs ls hH (lv_sub hl [1, 2, 3, 0] rfl)
          have hJ55 : ∀ (S : PS) (l0 : Nat) (l1 : Int32) (l2 : Int32) (l3 : Int32) (l4 : Int32), f_X6_heaviestBond_J55 post (f_X6_heaviestBond_L19 post (f_X6_heaviestBond_L6 post n6) n19) S l0 l1 l2 l3 l4 → ∀ (H : Heap) (locs : List Loc) (ls : Array Slot), p_H D cy S A s H locs → lv_has ls 5 [(0, .ref l0), (1, .int l1), (2, .int l2), (3, .int l3), (4, .int l4)] → W p l e rm_X6_heaviestBond s m [.ref a0].toArray below meth c H locs 0 0 (MQ below (va_Qi post (p_Post D cy A) A) [.ref a0].toArray s 0 0 A) (F0 m 55 ls []) := by
            intro S l0 l1 l2 l3 l4 hf H locs ls hH hl
            refine lv_iinc (v := l4 + 1) (lv' := [(4, .int (l4 + 1)), (0, .ref l0), (1, .int l1), (2, .int l2), (3, .int l3)]) hx hb dX6_heaviestBond_55 hl (k := 4) rfl rfl (by decide) rfl (fun ls hl => ?_)
            refine lv_goto (tgt := 19) hx hb dX6_heaviestBond_58 (by decide) ?_
            exact ih19 S l0 l1 l2 l3 (l4 + 1) hf H locs ls hH (lv_sub hl [1, 2, 3, 4, 0] rfl)
          refine lv_iload hx hb dX6_heaviestBond_19 (lv_at hl 4 rfl) ?_
          refine lv_aload_n hx hb dX6_heaviestBond_21 rfl (lv_at hl 0 rfl) ?_
          refine q_getI (T := TX6) (N := 6) X hH hf iw_X6 rfl (by decide) tw_139 (fun _ h => h) dX6_heaviestBond_22 (fun v1 hf => ?_)
          refine lv_icmp_ge (tgt := 61) hx hb dX6_heaviestBond_25 (by decide) (fun c2 => ?_) (fun c2 => ?_)
          · have hf := (if_pos c2).mp hf
            exact hJ61 S l0 l1 l2 l3 hf H locs ls hH (lv_sub hl [0, 1, 2, 3] rfl)
          · have hf := (if_neg c2).mp hf
            refine lv_aload_n hx hb dX6_heaviestBond_28 rfl (lv_at hl 0 rfl) ?_
            refine lv_iload_n hx hb dX6_heaviestBond_29 rfl (lv_at hl 3 rfl) ?_
            refine lv_iload hx hb dX6_heaviestBond_30 (lv_at hl 4 rfl) ?_
            obtain ⟨hb1, hb2, hf⟩ := hf
            refine q_backI0 X hH (q_runV [.int l3, .int l4] [] X hH hl (c_X6_tie l D cy G X.2.2.2.1 S l0 l3 l4 _ _ hf) mf_X6_tie mv_X6_tie tw_371 ⟨Nat.le_of_ble_eq_true rfl, Nat.le_of_ble_eq_true rfl⟩ hb1 hb2 (T := TX6) (N := 6) rfl rfl (Nat.le_of_ble_eq_true rfl) dX6_heaviestBond_32 ⟨Nat.le_of_ble_eq_true rfl, Nat.le_of_ble_eq_true rfl⟩) (fun v4 S3 hf H locs hH => ?_)
            refine lv_iload_n hx hb dX6_heaviestBond_35 rfl (lv_at hl 2 rfl) ?_
            refine lv_icmp_le (tgt := 55) hx hb dX6_heaviestBond_36 (by decide) (fun c5 => ?_) (fun c5 => ?_)
            · have hf := (if_pos c5).mp hf
              exact hJ55 S3 l0 l1 l2 l3 l4 hf H locs ls hH hl
            · have hf := (if_neg c5).mp hf
              refine lv_aload_n hx hb dX6_heaviestBond_39 rfl (lv_at hl 0 rfl) ?_
              refine lv_iload_n hx hb dX6_heaviestBond_40 rfl (lv_at hl 3 rfl) ?_
              refine lv_iload hx hb dX6_heaviestBond_41 (lv_at hl 4 rfl) ?_
              obtain ⟨hb1, hb2, hf⟩ := hf
              refine q_backI0 X hH (q_runV [.int l3, .int l4] [] X hH hl (c_X6_tie l D cy G X.2.2.2.1 S3 l0 l3 l4 _ _ hf) mf_X6_tie mv_X6_tie tw_371 ⟨Nat.le_of_ble_eq_true rfl, Nat.le_of_ble_eq_true rfl⟩ hb1 hb2 (T := TX6) (N := 6) rfl rfl (Nat.le_of_ble_eq_true rfl) dX6_heaviestBond_43 ⟨Nat.le_of_ble_eq_true rfl, Nat.le_of_ble_eq_true rfl⟩) (fun v7 S6 hf H locs hH => ?_)
              refine lv_istore_n (lv' := [(2, .int v7), (0, .ref l0), (1, .int l1), (3, .int l3), (4, .int l4)]) hx hb dX6_heaviestBond_46 rfl hl (by decide) rfl (fun ls hl => ?_)
              refine lv_bipush (v := 10) hx hb dX6_heaviestBond_47 (by decide) ?_
              refine lv_iload_n hx hb dX6_heaviestBond_49 rfl (lv_at hl 3 rfl) ?_
              refine lv_imul hx hb dX6_heaviestBond_50 ?_
              refine lv_iload hx hb dX6_heaviestBond_51 (lv_at hl 4 rfl) ?_
              refine lv_iadd hx hb dX6_heaviestBond_53 ?_
              refine lv_istore_n (lv' := [(1, .int (((10 : Int32) * l3) + l4)), (2, .int v7), (0, .ref l0), (3, .int l3), (4, .int l4)]) hx hb dX6_heaviestBond_54 rfl hl (by decide) rfl (fun ls hl => ?_)
              exact hJ55 S6 l0 (((10 : Int32) * l3) + l4) v7 l3 l4 hf H locs ls hH (lv_sub hl [2, 0, 1, 3, 4] rfl)
      refine lv_iload_n hx hb dX6_heaviestBond_6 rfl (lv_at hl 3 rfl) ?_
      refine lv_aload_n hx hb dX6_heaviestBond_7 rfl (lv_at hl 0 rfl) ?_
      refine q_getI (T := TX6) (N := 6) X hH hf iw_X6 rfl (by decide) tw_139 (fun _ h => h) dX6_heaviestBond_8 (fun v1 hf => ?_)
      refine lv_icmp_ge (tgt := 67) hx hb dX6_heaviestBond_11 (by decide) (fun c2 => ?_) (fun c2 => ?_)
      · have hf := (if_pos c2).mp hf
        refine lv_iload_n hx hb dX6_heaviestBond_67 rfl (lv_at hl 1 rfl) ?_
        exact q_retI X hH hr hlk hf (Nat.zero_le _) (Nat.zero_le _) dX6_heaviestBond_68
      · have hf := (if_neg c2).mp hf
        refine lv_iload_n hx hb dX6_heaviestBond_14 rfl (lv_at hl 3 rfl) ?_
        refine lv_iconst (v := 1) hx hb dX6_heaviestBond_15 (by decide) ?_
        refine lv_iadd hx hb dX6_heaviestBond_16 ?_
        refine lv_istore (lv' := [(4, .int (l3 + 1)), (0, .ref l0), (1, .int l1), (2, .int l2), (3, .int l3)]) hx hb dX6_heaviestBond_17 hl (by decide) rfl (fun ls hl => ?_)
        exact hL19 4096 S l0 l1 l2 l3 (l3 + 1) hf H locs ls hH (lv_sub hl [1, 2, 3, 4, 0] rfl)
  refine lv_iconst (v := (-1)) hx hb dX6_heaviestBond_0 (by decide) ?_
  refine lv_istore_n (lv' := [(1, .int ((-1))), (0, .ref a0)]) hx hb dX6_heaviestBond_1 rfl hl (by decide) rfl (fun ls hl => ?_)
  refine lv_iconst (v := 0) hx hb dX6_heaviestBond_2 (by decide) ?_
  refine lv_istore_n (lv' := [(2, .int 0), (1, .int ((-1))), (0, .ref a0)]) hx hb dX6_heaviestBond_3 rfl hl (by decide) rfl (fun ls hl => ?_)
  refine lv_iconst (v := 0) hx hb dX6_heaviestBond_4 (by decide) ?_
  refine lv_istore_n (lv' := [(3, .int 0), (2, .int 0), (1, .int ((-1))), (0, .ref a0)]) hx hb dX6_heaviestBond_5 rfl hl (by decide) rfl (fun ls hl => ?_)
  exact hL6 4096 S a0 (-1) 0 0 hf H locs ls hH (lv_sub hl [3, 2, 1, 0] rfl)
-- X7_phases
def f_X7_phases (S : PS) (a0 : Nat) (post : Int32 → PS → Prop) : Prop :=
  gR S a0 11 0 fun v1 => (
  isO S v1 10 (
  f_X6_phaseCount S v1 fun v3 S2 => (
  post v3 S2)))
abbrev rm_X7_phases : Room := { frames := 1, cells := 0, slots := 0, locals := 20 }
set_option maxHeartbeats 4000000 in
set_option maxRecDepth 100000 in
theorem c_X7_phases (l : Launch) (D : va_G) (cy : Nat → ClassId) (G : p_GT) (hG : p_ok G) (S : PS) (a0 : Nat) (post : Int32 → PS → Prop) (sz : Nat) (hf : f_X7_phases S a0 post) : p_Mi l D cy G S sz yX7_phases (Cond.code yX7_phases cX7_phases 1 (some .int) :: wG) rm_X7_phases [.ref a0] 0 0 post := by
  refine q_start hG (Qc := fun A => va_Qi post (p_Post D cy A) A) mf_X7_phases (Nat.le_of_ble_eq_true rfl) (own := RX7) rfl ?_
  intro p e s m below meth c A X hr hlk hnm ls hl hH
  have hx := X.1.1
  have hb := X.1.2.1
  replace hl : lv_has ls 1 [(0, .ref a0)] := hl
  obtain ⟨H, hHe⟩ : ∃ H, H = s.heap := ⟨_, rfl⟩
  obtain ⟨locs, hlo⟩ : ∃ locs : List Loc, locs = [] := ⟨_, rfl⟩
  rw [← hHe, ← hlo] at hH
  show W p l e rm_X7_phases s m [.ref a0].toArray below meth c s.heap [] 0 0 _ _
  rw [← hHe, ← hlo]
  refine lv_aload_n hx hb dX7_phases_0 rfl (lv_at hl 0 rfl) ?_
  refine q_getR (T := TX7) (N := 12) X hH hf iw_X7 rfl (by decide) tw_319 (fun _ h => h) dX7_phases_1 (fun v1 hf => ?_)
  obtain ⟨hb1, hb2, hf⟩ := hf
  refine q_backI0 X hH (q_runV [] [] X hH hl (c_X6_phaseCount l D cy G X.2.2.2.1 S v1 _ _ hf) mf_X6_phaseCount mv_X6_phaseCount tw_407 ⟨Nat.le_of_ble_eq_true rfl, Nat.le_of_ble_eq_true rfl⟩ hb1 hb2 (T := TX6) (N := 6) rfl rfl (Nat.le_of_ble_eq_true rfl) dX7_phases_4 ⟨Nat.le_of_ble_eq_true rfl, Nat.le_of_ble_eq_true rfl⟩) (fun v3 S2 hf H locs hH => ?_)
  exact q_retI X hH hr hlk hf (Nat.zero_le _) (Nat.zero_le _) dX7_phases_7
-- X7_faultPosition
def f_X7_faultPosition (S : PS) (a0 : Nat) (post : Int32 → PS → Prop) : Prop :=
  gR S a0 11 7 fun v1 => (
  isO S v1 9 (
  f_X5_fault S v1 fun v3 S2 => (
  post v3 S2)))
abbrev rm_X7_faultPosition : Room := { frames := 1, cells := 0, slots := 0, locals := 20 }
set_option maxHeartbeats 4000000 in
set_option maxRecDepth 100000 in
theorem c_X7_faultPosition (l : Launch) (D : va_G) (cy : Nat → ClassId) (G : p_GT) (hG : p_ok G) (S : PS) (a0 : Nat) (post : Int32 → PS → Prop) (sz : Nat) (hf : f_X7_faultPosition S a0 post) : p_Mi l D cy G S sz yX7_faultPosition (Cond.code yX7_faultPosition cX7_faultPosition 1 (some .int) :: wG) rm_X7_faultPosition [.ref a0] 0 0 post := by
  refine q_start hG (Qc := fun A => va_Qi post (p_Post D cy A) A) mf_X7_faultPosition (Nat.le_of_ble_eq_true rfl) (own := RX7) rfl ?_
  intro p e s m below meth c A X hr hlk hnm ls hl hH
  have hx := X.1.1
  have hb := X.1.2.1
  replace hl : lv_has ls 1 [(0, .ref a0)] := hl
  obtain ⟨H, hHe⟩ : ∃ H, H = s.heap := ⟨_, rfl⟩
  obtain ⟨locs, hlo⟩ : ∃ locs : List Loc, locs = [] := ⟨_, rfl⟩
  rw [← hHe, ← hlo] at hH
  show W p l e rm_X7_faultPosition s m [.ref a0].toArray below meth c s.heap [] 0 0 _ _
  rw [← hHe, ← hlo]
  refine lv_aload_n hx hb dX7_faultPosition_0 rfl (lv_at hl 0 rfl) ?_
  refine q_getR (T := TX7) (N := 12) X hH hf iw_X7 rfl (by decide) tw_326 (fun _ h => h) dX7_faultPosition_1 (fun v1 hf => ?_)
  obtain ⟨hb1, hb2, hf⟩ := hf
  refine q_backI0 X hH (q_runV [] [] X hH hl (c_X5_fault l D cy G X.2.2.2.1 S v1 _ _ hf) mf_X5_fault mv_X5_fault tw_551 ⟨Nat.le_of_ble_eq_true rfl, Nat.le_of_ble_eq_true rfl⟩ hb1 hb2 (T := TX5) (N := 7) rfl rfl (Nat.le_of_ble_eq_true rfl) dX7_faultPosition_4 ⟨Nat.le_of_ble_eq_true rfl, Nat.le_of_ble_eq_true rfl⟩) (fun v3 S2 hf H locs hH => ?_)
  exact q_retI X hH hr hlk hf (Nat.zero_le _) (Nat.zero_le _) dX7_faultPosition_7
-- X7_refusesIf
def f_X7_refusesIf (S : PS) (a0 : Nat) (a1 : Int32) (a2 : Int32) (a3 : Int32) (post : Int32 → PS → Prop) : Prop :=
  if a1 = 0 then
    nZ .boolean a1 (post a1 S)
  else
    gR S a0 11 8 fun v2 => (
    isO S v2 8 (
    f_X4_keep S v2 a2 a3 fun S3 => (
    nZ .boolean a1 (post a1 S3))))
abbrev rm_X7_refusesIf : Room := { frames := 1, cells := 0, slots := 0, locals := 22 }
set_option maxHeartbeats 4000000 in
set_option maxRecDepth 100000 in
theorem c_X7_refusesIf (l : Launch) (D : va_G) (cy : Nat → ClassId) (G : p_GT) (hG : p_ok G) (S : PS) (a0 : Nat) (a1 : Int32) (a2 : Int32) (a3 : Int32) (post : Int32 → PS → Prop) (sz : Nat) (hf : f_X7_refusesIf S a0 a1 a2 a3 post) : p_Mi l D cy G S sz yX7_refusesIf (Cond.code yX7_refusesIf cX7_refusesIf 4 (some .boolean) :: wG) rm_X7_refusesIf [.ref a0, .int a1, .int a2, .int a3] 0 0 post := by
  refine q_start hG (Qc := fun A => va_Qi post (p_Post D cy A) A) mf_X7_refusesIf (Nat.le_of_ble_eq_true rfl) (own := RX7) rfl ?_
  intro p e s m below meth c A X hr hlk hnm ls hl hH
  have hx := X.1.1
  have hb := X.1.2.1
  replace hl : lv_has ls 4 [(0, .ref a0), (1, .int a1), (2, .int a2), (3, .int a3)] := hl
  obtain ⟨H, hHe⟩ : ∃ H, H = s.heap := ⟨_, rfl⟩
  obtain ⟨locs, hlo⟩ : ∃ locs : List Loc, locs = [] := ⟨_, rfl⟩
  rw [← hHe, ← hlo] at hH
  show W p l e rm_X7_refusesIf s m [.ref a0, .int a1, .int a2, .int a3].toArray below meth c s.heap [] 0 0 _ _
  rw [← hHe, ← hlo]
  refine lv_iload_n hx hb dX7_refusesIf_0 rfl (lv_at hl 1 rfl) ?_
  refine lv_if_eq (tgt := 13) hx hb dX7_refusesIf_1 (by decide) (fun c1 => ?_) (fun c1 => ?_)
  · have hf := (if_pos c1).mp hf
    refine lv_iload_n hx hb dX7_refusesIf_13 rfl (lv_at hl 1 rfl) ?_
    exact q_retZ X hH hr hlk hf (Nat.zero_le _) (Nat.zero_le _) dX7_refusesIf_14
  · have hf := (if_neg c1).mp hf
    refine lv_aload_n hx hb dX7_refusesIf_4 rfl (lv_at hl 0 rfl) ?_
    refine q_getR (T := TX7) (N := 12) X hH hf iw_X7 rfl (by decide) tw_327 (fun _ h => h) dX7_refusesIf_5 (fun v2 hf => ?_)
    refine lv_iload_n hx hb dX7_refusesIf_8 rfl (lv_at hl 2 rfl) ?_
    refine lv_iload_n hx hb dX7_refusesIf_9 rfl (lv_at hl 3 rfl) ?_
    obtain ⟨hb1, hb2, hf⟩ := hf
    refine q_backV0 X hH (q_runV [.int a2, .int a3] [] X hH hl (c_X4_keep l D cy G X.2.2.2.1 S v2 a2 a3 _ _ hf) mf_X4_keep mv_X4_keep tw_965 ⟨Nat.le_of_ble_eq_true rfl, Nat.le_of_ble_eq_true rfl⟩ hb1 hb2 (T := TX4) (N := 4) rfl rfl (Nat.le_of_ble_eq_true rfl) dX7_refusesIf_10 ⟨Nat.le_of_ble_eq_true rfl, Nat.le_of_ble_eq_true rfl⟩) (fun S3 hf H locs hH => ?_)
    refine lv_iload_n hx hb dX7_refusesIf_13 rfl (lv_at hl 1 rfl) ?_
    exact q_retZ X hH hr hlk hf (Nat.zero_le _) (Nat.zero_le _) dX7_refusesIf_14
-- X7_isTooSmall
def f_X7_isTooSmall (S : PS) (a0 : Nat) (post : Int32 → PS → Prop) : Prop :=
  gR S a0 11 0 fun v1 => (
  gI S v1 10 1 fun v2 => (
  if 2 ≤ v2 then
    nZ .boolean 0 (post 0 S)
  else
    nZ .boolean 1 (post 1 S)))
abbrev rm_X7_isTooSmall : Room := { frames := 0, cells := 0, slots := 0, locals := 0 }
set_option maxHeartbeats 4000000 in
set_option maxRecDepth 100000 in
theorem c_X7_isTooSmall (l : Launch) (D : va_G) (cy : Nat → ClassId) (G : p_GT) (hG : p_ok G) (S : PS) (a0 : Nat) (post : Int32 → PS → Prop) (sz : Nat) (hf : f_X7_isTooSmall S a0 post) : p_Mi l D cy G S sz yX7_isTooSmall (Cond.code yX7_isTooSmall cX7_isTooSmall 1 (some .boolean) :: wG) rm_X7_isTooSmall [.ref a0] 0 0 post := by
  refine q_start hG (Qc := fun A => va_Qi post (p_Post D cy A) A) mf_X7_isTooSmall (Nat.le_of_ble_eq_true rfl) (own := RX7) rfl ?_
  intro p e s m below meth c A X hr hlk hnm ls hl hH
  have hx := X.1.1
  have hb := X.1.2.1
  replace hl : lv_has ls 1 [(0, .ref a0)] := hl
  obtain ⟨H, hHe⟩ : ∃ H, H = s.heap := ⟨_, rfl⟩
  obtain ⟨locs, hlo⟩ : ∃ locs : List Loc, locs = [] := ⟨_, rfl⟩
  rw [← hHe, ← hlo] at hH
  show W p l e rm_X7_isTooSmall s m [.ref a0].toArray below meth c s.heap [] 0 0 _ _
  rw [← hHe, ← hlo]
  refine lv_aload_n hx hb dX7_isTooSmall_0 rfl (lv_at hl 0 rfl) ?_
  refine q_getR (T := TX7) (N := 12) X hH hf iw_X7 rfl (by decide) tw_319 (fun _ h => h) dX7_isTooSmall_1 (fun v1 hf => ?_)
  refine q_getIN (T := TX6) (N := 6) X hH hf iw_X6 rfl (by decide) (List.mem_of_getElem? (i := 0) rfl) (fun _ h => h) dX7_isTooSmall_4 (fun v2 hf => ?_)
  refine lv_iconst (v := 2) hx hb dX7_isTooSmall_7 (by decide) ?_
  refine lv_icmp_ge (tgt := 15) hx hb dX7_isTooSmall_8 (by decide) (fun c3 => ?_) (fun c3 => ?_)
  · have hf := (if_pos c3).mp hf
    refine lv_iconst (v := 0) hx hb dX7_isTooSmall_15 (by decide) ?_
    exact q_retZ X hH hr hlk hf (Nat.zero_le _) (Nat.zero_le _) dX7_isTooSmall_16
  · have hf := (if_neg c3).mp hf
    refine lv_iconst (v := 1) hx hb dX7_isTooSmall_11 (by decide) ?_
    refine lv_goto (tgt := 16) hx hb dX7_isTooSmall_12 (by decide) ?_
    exact q_retZ X hH hr hlk hf (Nat.zero_le _) (Nat.zero_le _) dX7_isTooSmall_16
-- X7_hasPhase
def f_X7_hasPhase (S : PS) (a0 : Nat) (a1 : Int32) (post : Int32 → PS → Prop) : Prop :=
  if a1 < 0 then
    nZ .boolean 0 (post 0 S)
  else
    gR S a0 11 0 fun v2 => (
    isO S v2 10 (
    f_X6_phaseCount S v2 fun v4 S3 => (
    if v4 ≤ a1 then
      nZ .boolean 0 (post 0 S3)
    else
      nZ .boolean 1 (post 1 S3))))
abbrev rm_X7_hasPhase : Room := { frames := 1, cells := 0, slots := 0, locals := 20 }
set_option maxHeartbeats 4000000 in
set_option maxRecDepth 100000 in
theorem c_X7_hasPhase (l : Launch) (D : va_G) (cy : Nat → ClassId) (G : p_GT) (hG : p_ok G) (S : PS) (a0 : Nat) (a1 : Int32) (post : Int32 → PS → Prop) (sz : Nat) (hf : f_X7_hasPhase S a0 a1 post) : p_Mi l D cy G S sz yX7_hasPhase (Cond.code yX7_hasPhase cX7_hasPhase 2 (some .boolean) :: wG) rm_X7_hasPhase [.ref a0, .int a1] 0 0 post := by
  refine q_start hG (Qc := fun A => va_Qi post (p_Post D cy A) A) mf_X7_hasPhase (Nat.le_of_ble_eq_true rfl) (own := RX7) rfl ?_
  intro p e s m below meth c A X hr hlk hnm ls hl hH
  have hx := X.1.1
  have hb := X.1.2.1
  replace hl : lv_has ls 2 [(0, .ref a0), (1, .int a1)] := hl
  obtain ⟨H, hHe⟩ : ∃ H, H = s.heap := ⟨_, rfl⟩
  obtain ⟨locs, hlo⟩ : ∃ locs : List Loc, locs = [] := ⟨_, rfl⟩
  rw [← hHe, ← hlo] at hH
  show W p l e rm_X7_hasPhase s m [.ref a0, .int a1].toArray below meth c s.heap [] 0 0 _ _
  rw [← hHe, ← hlo]
  refine lv_iload_n hx hb dX7_hasPhase_0 rfl (lv_at hl 1 rfl) ?_
  refine lv_if_lt (tgt := 19) hx hb dX7_hasPhase_1 (by decide) (fun c1 => ?_) (fun c1 => ?_)
  · have hf := (if_pos c1).mp hf
    refine lv_iconst (v := 0) hx hb dX7_hasPhase_19 (by decide) ?_
    exact q_retZ X hH hr hlk hf (Nat.zero_le _) (Nat.zero_le _) dX7_hasPhase_20
  · have hf := (if_neg c1).mp hf
    refine lv_iload_n hx hb dX7_hasPhase_4 rfl (lv_at hl 1 rfl) ?_
    refine lv_aload_n hx hb dX7_hasPhase_5 rfl (lv_at hl 0 rfl) ?_
    refine q_getR (T := TX7) (N := 12) X hH hf iw_X7 rfl (by decide) tw_319 (fun _ h => h) dX7_hasPhase_6 (fun v2 hf => ?_)
    obtain ⟨hb1, hb2, hf⟩ := hf
    refine q_backI0 X hH (q_runV [] [.int a1] X hH hl (c_X6_phaseCount l D cy G X.2.2.2.1 S v2 _ _ hf) mf_X6_phaseCount mv_X6_phaseCount tw_407 ⟨Nat.le_of_ble_eq_true rfl, Nat.le_of_ble_eq_true rfl⟩ hb1 hb2 (T := TX6) (N := 6) rfl rfl (Nat.le_of_ble_eq_true rfl) dX7_hasPhase_9 ⟨Nat.le_of_ble_eq_true rfl, Nat.le_of_ble_eq_true rfl⟩) (fun v4 S3 hf H locs hH => ?_)
    refine lv_icmp_ge (tgt := 19) hx hb dX7_hasPhase_12 (by decide) (fun c5 => ?_) (fun c5 => ?_)
    · have hf := (if_pos c5).mp hf
      refine lv_iconst (v := 0) hx hb dX7_hasPhase_19 (by decide) ?_
      exact q_retZ X hH hr hlk hf (Nat.zero_le _) (Nat.zero_le _) dX7_hasPhase_20
    · have hf := (if_neg c5).mp hf
      refine lv_iconst (v := 1) hx hb dX7_hasPhase_15 (by decide) ?_
      refine lv_goto (tgt := 20) hx hb dX7_hasPhase_16 (by decide) ?_
      exact q_retZ X hH hr hlk hf (Nat.zero_le _) (Nat.zero_le _) dX7_hasPhase_20
-- X7_placeOf
def f_X7_placeOf_J74 (post : Int32 → PS → Prop) (g4 : PS → Nat → Int32 → Int32 → Int32 → Prop) (S : PS) (l0 : Nat) (l1 : Int32) (l2 : Int32) (l3 : Int32) : Prop :=
  g4 S l0 l1 l2 (l3 + 1)
def f_X7_placeOf_J64 (post : Int32 → PS → Prop) (g4 : PS → Nat → Int32 → Int32 → Int32 → Prop) (S : PS) (l0 : Nat) (l1 : Int32) (l2 : Int32) (l3 : Int32) (t0 : Int32) : Prop :=
  if t0 = 0 then
    f_X7_placeOf_J74 post g4 S l0 l1 l2 l3
  else
    f_X7_placeOf_J74 post g4 S l0 l1 (l2 + 1) l3
def f_X7_placeOf_J59 (post : Int32 → PS → Prop) (g4 : PS → Nat → Int32 → Int32 → Int32 → Prop) (S : PS) (l0 : Nat) (l1 : Int32) (l2 : Int32) (l3 : Int32) : Prop :=
  f_X7_placeOf_J64 post g4 S l0 l1 l2 l3 1
def f_X7_placeOf_J63 (post : Int32 → PS → Prop) (g4 : PS → Nat → Int32 → Int32 → Int32 → Prop) (S : PS) (l0 : Nat) (l1 : Int32) (l2 : Int32) (l3 : Int32) : Prop :=
  f_X7_placeOf_J64 post g4 S l0 l1 l2 l3 0
def f_X7_placeOf_L4 (post : Int32 → PS → Prop) : Nat → PS → Nat → Int32 → Int32 → Int32 → Prop
  | 0, _, _, _, _, _ => False
  | n + 1, S, l0, l1, l2, l3 =>
  gR S l0 11 0 fun v1 => (
  gI S v1 10 1 fun v2 => (
  if v2 ≤ l3 then
    post l2 S
  else
    gR S l0 11 10 fun v4 => (
    lE S v4 fun v5 => (
    if v5 ≤ l3 then
      post l2 S
    else
      gR S l0 11 10 fun v7 => (
      aI S v7 0 l3 fun v8 => (
      gR S l0 11 10 fun v9 => (
      aI S v9 0 l1 fun v10 => (
      if v10 < v8 then
        f_X7_placeOf_J59 post (f_X7_placeOf_L4 post n) S l0 l1 l2 l3
      else
        gR S l0 11 10 fun v12 => (
        aI S v12 0 l3 fun v13 => (
        gR S l0 11 10 fun v14 => (
        aI S v14 0 l1 fun v15 => (
        if v13 = v15 then
          if l1 ≤ l3 then
            f_X7_placeOf_J63 post (f_X7_placeOf_L4 post n) S l0 l1 l2 l3
          else
            f_X7_placeOf_J59 post (f_X7_placeOf_L4 post n) S l0 l1 l2 l3
        else
          f_X7_placeOf_J63 post (f_X7_placeOf_L4 post n) S l0 l1 l2 l3))))))))))))
def f_X7_placeOf (S : PS) (a0 : Nat) (a1 : Int32) (post : Int32 → PS → Prop) : Prop :=
  f_X7_placeOf_L4 post 4096 S a0 a1 0 0
abbrev rm_X7_placeOf : Room := { frames := 0, cells := 0, slots := 0, locals := 0 }
set_option maxHeartbeats 4000000 in
set_option maxRecDepth 100000 in
theorem c_X7_placeOf (l : Launch) (D : va_G) (cy : Nat → ClassId) (G : p_GT) (hG : p_ok G) (S : PS) (a0 : Nat) (a1 : Int32) (post : Int32 → PS → Prop) (sz : Nat) (hf : f_X7_placeOf S a0 a1 post) : p_Mi l D cy G S sz yX7_placeOf (Cond.code yX7_placeOf cX7_placeOf 5 (some .int) :: wG) rm_X7_placeOf [.ref a0, .int a1] 0 0 post := by
  refine q_start hG (Qc := fun A => va_Qi post (p_Post D cy A) A) mf_X7_placeOf (Nat.le_of_ble_eq_true rfl) (own := RX7) rfl ?_
  intro p e s m below meth c A X hr hlk hnm ls hl hH
  have hx := X.1.1
  have hb := X.1.2.1
  replace hl : lv_has ls 5 [(0, .ref a0), (1, .int a1)] := hl
  obtain ⟨H, hHe⟩ : ∃ H, H = s.heap := ⟨_, rfl⟩
  obtain ⟨locs, hlo⟩ : ∃ locs : List Loc, locs = [] := ⟨_, rfl⟩
  rw [← hHe, ← hlo] at hH
  show W p l e rm_X7_placeOf s m [.ref a0, .int a1].toArray below meth c s.heap [] 0 0 _ _
  rw [← hHe, ← hlo]
  have hL4 : ∀ (n4 : Nat) (S : PS) (l0 : Nat) (l1 : Int32) (l2 : Int32) (l3 : Int32), f_X7_placeOf_L4 post n4 S l0 l1 l2 l3 → ∀ (H : Heap) (locs : List Loc) (ls : Array Slot), p_H D cy S A s H locs → lv_has ls 5 [(0, .ref l0), (1, .int l1), (2, .int l2), (3, .int l3)] → W p l e rm_X7_placeOf s m [.ref a0, .int a1].toArray below meth c H locs 0 0 (MQ below (va_Qi post (p_Post D cy A) A) [.ref a0, .int a1].toArray s 0 0 A) (F0 m 4 ls []) := by
    intro n4
    induction n4 with
    | zero => intro S l0 l1 l2 l3 hf; exact hf.elim
    | succ n4 ih4 =>
      intro S l0 l1 l2 l3 hf H locs ls hH hl
      have hJ64 : ∀ (S : PS) (l0 : Nat) (l1 : Int32) (l2 : Int32) (l3 : Int32) (t0 : Int32), f_X7_placeOf_J64 post (f_X7_placeOf_L4 post n4) S l0 l1 l2 l3 t0 → ∀ (H : Heap) (locs : List Loc) (ls : Array Slot), p_H D cy S A s H locs → lv_has ls 5 [(0, .ref l0), (1, .int l1), (2, .int l2), (3, .int l3)] → W p l e rm_X7_placeOf s m [.ref a0, .int a1].toArray below meth c H locs 0 0 (MQ below (va_Qi post (p_Post D cy A) A) [.ref a0, .int a1].toArray s 0 0 A) (F0 m 64 ls [.int t0]) := by
        intro S l0 l1 l2 l3 t0 hf H locs ls hH hl
        have hJ74 : ∀ (S : PS) (l0 : Nat) (l1 : Int32) (l2 : Int32) (l3 : Int32), f_X7_placeOf_J74 post (f_X7_placeOf_L4 post n4) S l0 l1 l2 l3 → ∀ (H : Heap) (locs : List Loc) (ls : Array Slot), p_H D cy S A s H locs → lv_has ls 5 [(0, .ref l0), (1, .int l1), (2, .int l2), (3, .int l3)] → W p l e rm_X7_placeOf s m [.ref a0, .int a1].toArray below meth c H locs 0 0 (MQ below (va_Qi post (p_Post D cy A) A) [.ref a0, .int a1].toArray s 0 0 A) (F0 m 74 ls []) := by
          intro S l0 l1 l2 l3 hf H locs ls hH hl
          refine lv_iinc (v := l3 + 1) (lv' := [(3, .int (l3 + 1)), (0, .ref l0), (1, .int l1), (2, .int l2)]) hx hb dX7_placeOf_74 hl (k := 3) rfl rfl (by decide) rfl (fun ls hl => ?_)
          refine lv_goto (tgt := 4) hx hb dX7_placeOf_77 (by decide) ?_
          exact ih4 S l0 l1 l2 (l3 + 1) hf H locs ls hH (lv_sub hl [1, 2, 3, 0] rfl)
        refine lv_istore (lv' := [(4, .int t0), (0, .ref l0), (1, .int l1), (2, .int l2), (3, .int l3)]) hx hb dX7_placeOf_64 hl (by decide) rfl (fun ls hl => ?_)
        refine lv_iload hx hb dX7_placeOf_66 (lv_at hl 0 rfl) ?_
        refine lv_if_eq (tgt := 74) hx hb dX7_placeOf_68 (by decide) (fun c1 => ?_) (fun c1 => ?_)
        · have hf := (if_pos c1).mp hf
          exact hJ74 S l0 l1 l2 l3 hf H locs ls hH (lv_sub hl [1, 2, 3, 4] rfl)
        · have hf := (if_neg c1).mp hf
          refine lv_iinc (v := l2 + 1) (lv' := [(2, .int (l2 + 1)), (4, .int t0), (0, .ref l0), (1, .int l1), (3, .int l3)]) hx hb dX7_placeOf_71 hl (k := 3) rfl rfl (by decide) rfl (fun ls hl => ?_)
          exact hJ74 S l0 l1 (l2 + 1) l3 hf H locs ls hH (lv_sub hl [2, 3, 0, 4] rfl)
      have hJ59 : ∀ (S : PS) (l0 : Nat) (l1 : Int32) (l2 : Int32) (l3 : Int32), f_X7_placeOf_J59 post (f_X7_placeOf_L4 post n4) S l0 l1 l2 l3 → ∀ (H : Heap) (locs : List Loc) (ls : Array Slot), p_H D cy S A s H locs → lv_has ls 5 [(0, .ref l0), (1, .int l1), (2, .int l2), (3, .int l3)] → W p l e rm_X7_placeOf s m [.ref a0, .int a1].toArray below meth c H locs 0 0 (MQ below (va_Qi post (p_Post D cy A) A) [.ref a0, .int a1].toArray s 0 0 A) (F0 m 59 ls []) := by
        intro S l0 l1 l2 l3 hf H locs ls hH hl
        refine lv_iconst (v := 1) hx hb dX7_placeOf_59 (by decide) ?_
        refine lv_goto (tgt := 64) hx hb dX7_placeOf_60 (by decide) ?_
        exact hJ64 S l0 l1 l2 l3 1 hf H locs ls hH hl
      have hJ63 : ∀ (S : PS) (l0 : Nat) (l1 : Int32) (l2 : Int32) (l3 : Int32), f_X7_placeOf_J63 post (f_X7_placeOf_L4 post n4) S l0 l1 l2 l3 → ∀ (H : Heap) (locs : List Loc) (ls : Array Slot), p_H D cy S A s H locs → lv_has ls 5 [(0, .ref l0), (1, .int l1), (2, .int l2), (3, .int l3)] → W p l e rm_X7_placeOf s m [.ref a0, .int a1].toArray below meth c H locs 0 0 (MQ below (va_Qi post (p_Post D cy A) A) [.ref a0, .int a1].toArray s 0 0 A) (F0 m 63 ls []) := by
        intro S l0 l1 l2 l3 hf H locs ls hH hl
        refine lv_iconst (v := 0) hx hb dX7_placeOf_63 (by decide) ?_
        exact hJ64 S l0 l1 l2 l3 0 hf H locs ls hH hl
      refine lv_iload_n hx hb dX7_placeOf_4 rfl (lv_at hl 3 rfl) ?_
      refine lv_aload_n hx hb dX7_placeOf_5 rfl (lv_at hl 0 rfl) ?_
      refine q_getR (T := TX7) (N := 12) X hH hf iw_X7 rfl (by decide) tw_319 (fun _ h => h) dX7_placeOf_6 (fun v1 hf => ?_)
      refine q_getIN (T := TX6) (N := 6) X hH hf iw_X6 rfl (by decide) (List.mem_of_getElem? (i := 0) rfl) (fun _ h => h) dX7_placeOf_9 (fun v2 hf => ?_)
      refine lv_icmp_ge (tgt := 80) hx hb dX7_placeOf_12 (by decide) (fun c3 => ?_) (fun c3 => ?_)
      · have hf := (if_pos c3).mp hf
        refine lv_iload_n hx hb dX7_placeOf_80 rfl (lv_at hl 2 rfl) ?_
        exact q_retI X hH hr hlk hf (Nat.zero_le _) (Nat.zero_le _) dX7_placeOf_81
      · have hf := (if_neg c3).mp hf
        refine lv_iload_n hx hb dX7_placeOf_15 rfl (lv_at hl 3 rfl) ?_
        refine lv_aload_n hx hb dX7_placeOf_16 rfl (lv_at hl 0 rfl) ?_
        refine q_getR (T := TX7) (N := 12) X hH hf iw_X7 rfl (by decide) tw_329 (fun _ h => h) dX7_placeOf_17 (fun v4 hf => ?_)
        refine q_alen X hH hf dX7_placeOf_20 (fun v5 hf => ?_)
        refine lv_icmp_ge (tgt := 80) hx hb dX7_placeOf_21 (by decide) (fun c6 => ?_) (fun c6 => ?_)
        · have hf := (if_pos c6).mp hf
          refine lv_iload_n hx hb dX7_placeOf_80 rfl (lv_at hl 2 rfl) ?_
          exact q_retI X hH hr hlk hf (Nat.zero_le _) (Nat.zero_le _) dX7_placeOf_81
        · have hf := (if_neg c6).mp hf
          refine lv_aload_n hx hb dX7_placeOf_24 rfl (lv_at hl 0 rfl) ?_
          refine q_getR (T := TX7) (N := 12) X hH hf iw_X7 rfl (by decide) tw_329 (fun _ h => h) dX7_placeOf_25 (fun v7 hf => ?_)
          refine lv_iload_n hx hb dX7_placeOf_28 rfl (lv_at hl 3 rfl) ?_
          refine q_iald X hH hf dX7_placeOf_29 (fun v8 hf => ?_)
          refine lv_aload_n hx hb dX7_placeOf_30 rfl (lv_at hl 0 rfl) ?_
          refine q_getR (T := TX7) (N := 12) X hH hf iw_X7 rfl (by decide) tw_329 (fun _ h => h) dX7_placeOf_31 (fun v9 hf => ?_)
          refine lv_iload_n hx hb dX7_placeOf_34 rfl (lv_at hl 1 rfl) ?_
          refine q_iald X hH hf dX7_placeOf_35 (fun v10 hf => ?_)
          refine lv_icmp_gt (tgt := 59) hx hb dX7_placeOf_36 (by decide) (fun c11 => ?_) (fun c11 => ?_)
          · have hf := (if_pos c11).mp hf
            exact hJ59 S l0 l1 l2 l3 hf H locs ls hH hl
          · have hf := (if_neg c11).mp hf
            refine lv_aload_n hx hb dX7_placeOf_39 rfl (lv_at hl 0 rfl) ?_
            refine q_getR (T := TX7) (N := 12) X hH hf iw_X7 rfl (by decide) tw_329 (fun _ h => h) dX7_placeOf_40 (fun v12 hf => ?_)
            refine lv_iload_n hx hb dX7_placeOf_43 rfl (lv_at hl 3 rfl) ?_
            refine q_iald X hH hf dX7_placeOf_44 (fun v13 hf => ?_)
            refine lv_aload_n hx hb dX7_placeOf_45 rfl (lv_at hl 0 rfl) ?_
            refine q_getR (T := TX7) (N := 12) X hH hf iw_X7 rfl (by decide) tw_329 (fun _ h => h) dX7_placeOf_46 (fun v14 hf => ?_)
            refine lv_iload_n hx hb dX7_placeOf_49 rfl (lv_at hl 1 rfl) ?_
            refine q_iald X hH hf dX7_placeOf_50 (fun v15 hf => ?_)
            refine lv_icmp_ne (tgt := 63) hx hb dX7_placeOf_51 (by decide) (fun c16 => ?_) (fun c16 => ?_)
            · have hf := (if_neg c16).mp hf
              exact hJ63 S l0 l1 l2 l3 hf H locs ls hH hl
            · have hf := (if_pos c16).mp hf
              refine lv_iload_n hx hb dX7_placeOf_54 rfl (lv_at hl 3 rfl) ?_
              refine lv_iload_n hx hb dX7_placeOf_55 rfl (lv_at hl 1 rfl) ?_
              refine lv_icmp_ge (tgt := 63) hx hb dX7_placeOf_56 (by decide) (fun c17 => ?_) (fun c17 => ?_)
              · have hf := (if_pos c17).mp hf
                exact hJ63 S l0 l1 l2 l3 hf H locs ls hH hl
              · have hf := (if_neg c17).mp hf
                exact hJ59 S l0 l1 l2 l3 hf H locs ls hH hl
  refine lv_iconst (v := 0) hx hb dX7_placeOf_0 (by decide) ?_
  refine lv_istore_n (lv' := [(2, .int 0), (0, .ref a0), (1, .int a1)]) hx hb dX7_placeOf_1 rfl hl (by decide) rfl (fun ls hl => ?_)
  refine lv_iconst (v := 0) hx hb dX7_placeOf_2 (by decide) ?_
  refine lv_istore_n (lv' := [(3, .int 0), (2, .int 0), (0, .ref a0), (1, .int a1)]) hx hb dX7_placeOf_3 rfl hl (by decide) rfl (fun ls hl => ?_)
  exact hL4 4096 S a0 a1 0 0 hf H locs ls hH (lv_sub hl [2, 3, 1, 0] rfl)
-- X7_isIn
def f_X7_isIn (S : PS) (a0 : Int32) (a1 : Int32) (post : Int32 → PS → Prop) : Prop :=
  if ((a0 >>> (a1 &&& 31)) &&& 1) = 1 then
    nZ .boolean 1 (post 1 S)
  else
    nZ .boolean 0 (post 0 S)
abbrev rm_X7_isIn : Room := { frames := 0, cells := 0, slots := 0, locals := 0 }
set_option maxHeartbeats 4000000 in
set_option maxRecDepth 100000 in
theorem c_X7_isIn (l : Launch) (D : va_G) (cy : Nat → ClassId) (G : p_GT) (hG : p_ok G) (S : PS) (a0 : Int32) (a1 : Int32) (post : Int32 → PS → Prop) (sz : Nat) (hf : f_X7_isIn S a0 a1 post) : p_Mi l D cy G S sz yX7_isIn (Cond.code yX7_isIn cX7_isIn 2 (some .boolean) :: wG) rm_X7_isIn [.int a0, .int a1] 0 0 post := by
  refine q_start hG (Qc := fun A => va_Qi post (p_Post D cy A) A) mf_X7_isIn (Nat.le_of_ble_eq_true rfl) (own := RX7) rfl ?_
  intro p e s m below meth c A X hr hlk hnm ls hl hH
  have hx := X.1.1
  have hb := X.1.2.1
  replace hl : lv_has ls 2 [(0, .int a0), (1, .int a1)] := hl
  obtain ⟨H, hHe⟩ : ∃ H, H = s.heap := ⟨_, rfl⟩
  obtain ⟨locs, hlo⟩ : ∃ locs : List Loc, locs = [] := ⟨_, rfl⟩
  rw [← hHe, ← hlo] at hH
  show W p l e rm_X7_isIn s m [.int a0, .int a1].toArray below meth c s.heap [] 0 0 _ _
  rw [← hHe, ← hlo]
  refine lv_iload_n hx hb dX7_isIn_0 rfl (lv_at hl 0 rfl) ?_
  refine lv_iload_n hx hb dX7_isIn_1 rfl (lv_at hl 1 rfl) ?_
  refine lv_ishr hx hb dX7_isIn_2 ?_
  refine lv_iconst (v := 1) hx hb dX7_isIn_3 (by decide) ?_
  refine lv_iand hx hb dX7_isIn_4 ?_
  refine lv_iconst (v := 1) hx hb dX7_isIn_5 (by decide) ?_
  refine lv_icmp_ne (tgt := 13) hx hb dX7_isIn_6 (by decide) (fun c1 => ?_) (fun c1 => ?_)
  · have hf := (if_neg c1).mp hf
    refine lv_iconst (v := 0) hx hb dX7_isIn_13 (by decide) ?_
    exact q_retZ X hH hr hlk hf (Nat.zero_le _) (Nat.zero_le _) dX7_isIn_14
  · have hf := (if_pos c1).mp hf
    refine lv_iconst (v := 1) hx hb dX7_isIn_9 (by decide) ?_
    refine lv_goto (tgt := 14) hx hb dX7_isIn_10 (by decide) ?_
    exact q_retZ X hH hr hlk hf (Nat.zero_le _) (Nat.zero_le _) dX7_isIn_14
-- X7_lowestOf
def f_X7_lowestOf_L2 (post : Int32 → PS → Prop) : Nat → PS → Int32 → Int32 → Prop
  | 0, _, _, _ => False
  | n + 1, S, l0, l1 =>
  if 9 ≤ l1 then
    post (-1) S
  else
    f_X7_isIn S l0 l1 fun v3 S2 => (
    if v3 = 0 then
      (f_X7_lowestOf_L2 post n) S2 l0 (l1 + 1)
    else
      post l1 S2)
def f_X7_lowestOf (S : PS) (a0 : Int32) (post : Int32 → PS → Prop) : Prop :=
  f_X7_lowestOf_L2 post 4096 S a0 0
abbrev rm_X7_lowestOf : Room := { frames := 1, cells := 0, slots := 0, locals := 21 }
set_option maxHeartbeats 4000000 in
set_option maxRecDepth 100000 in
theorem c_X7_lowestOf (l : Launch) (D : va_G) (cy : Nat → ClassId) (G : p_GT) (hG : p_ok G) (S : PS) (a0 : Int32) (post : Int32 → PS → Prop) (sz : Nat) (hf : f_X7_lowestOf S a0 post) : p_Mi l D cy G S sz yX7_lowestOf (Cond.code yX7_lowestOf cX7_lowestOf 2 (some .int) :: wG) rm_X7_lowestOf [.int a0] 0 0 post := by
  refine q_start hG (Qc := fun A => va_Qi post (p_Post D cy A) A) mf_X7_lowestOf (Nat.le_of_ble_eq_true rfl) (own := RX7) rfl ?_
  intro p e s m below meth c A X hr hlk hnm ls hl hH
  have hx := X.1.1
  have hb := X.1.2.1
  replace hl : lv_has ls 2 [(0, .int a0)] := hl
  obtain ⟨H, hHe⟩ : ∃ H, H = s.heap := ⟨_, rfl⟩
  obtain ⟨locs, hlo⟩ : ∃ locs : List Loc, locs = [] := ⟨_, rfl⟩
  rw [← hHe, ← hlo] at hH
  show W p l e rm_X7_lowestOf s m [.int a0].toArray below meth c s.heap [] 0 0 _ _
  rw [← hHe, ← hlo]
  have hL2 : ∀ (n2 : Nat) (S : PS) (l0 : Int32) (l1 : Int32), f_X7_lowestOf_L2 post n2 S l0 l1 → ∀ (H : Heap) (locs : List Loc) (ls : Array Slot), p_H D cy S A s H locs → lv_has ls 2 [(0, .int l0), (1, .int l1)] → W p l e rm_X7_lowestOf s m [.int a0].toArray below meth c H locs 0 0 (MQ below (va_Qi post (p_Post D cy A) A) [.int a0].toArray s 0 0 A) (F0 m 2 ls []) := by
    intro n2
    induction n2 with
    | zero => intro S l0 l1 hf; exact hf.elim
    | succ n2 ih2 =>
      intro S l0 l1 hf H locs ls hH hl
      refine lv_iload_n hx hb dX7_lowestOf_2 rfl (lv_at hl 1 rfl) ?_
      refine lv_bipush (v := 9) hx hb dX7_lowestOf_3 (by decide) ?_
      refine lv_icmp_ge (tgt := 24) hx hb dX7_lowestOf_5 (by decide) (fun c1 => ?_) (fun c1 => ?_)
      · have hf := (if_pos c1).mp hf
        refine lv_iconst (v := (-1)) hx hb dX7_lowestOf_24 (by decide) ?_
        exact q_retI X hH hr hlk hf (Nat.zero_le _) (Nat.zero_le _) dX7_lowestOf_25
      · have hf := (if_neg c1).mp hf
        refine lv_iload_n hx hb dX7_lowestOf_8 rfl (lv_at hl 0 rfl) ?_
        refine lv_iload_n hx hb dX7_lowestOf_9 rfl (lv_at hl 1 rfl) ?_
        refine q_backI0 X hH (q_runS [.int l0, .int l1] [] X hH hl (c_X7_isIn l D cy G X.2.2.2.1 S l0 l1 _ _ hf) mf_X7_isIn tw_369 tw_422 ⟨Nat.le_of_ble_eq_true rfl, Nat.le_of_ble_eq_true rfl⟩ rfl (Nat.le_of_ble_eq_true rfl) dX7_lowestOf_10 ⟨Nat.le_of_ble_eq_true rfl, Nat.le_of_ble_eq_true rfl⟩) (fun v3 S2 hf H locs hH => ?_)
        refine lv_if_eq (tgt := 18) hx hb dX7_lowestOf_13 (by decide) (fun c4 => ?_) (fun c4 => ?_)
        · have hf := (if_pos c4).mp hf
          refine lv_iinc (v := l1 + 1) (lv' := [(1, .int (l1 + 1)), (0, .int l0)]) hx hb dX7_lowestOf_18 hl (k := 1) rfl rfl (by decide) rfl (fun ls hl => ?_)
          refine lv_goto (tgt := 2) hx hb dX7_lowestOf_21 (by decide) ?_
          exact ih2 S2 l0 (l1 + 1) hf H locs ls hH (lv_sub hl [1, 0] rfl)
        · have hf := (if_neg c4).mp hf
          refine lv_iload_n hx hb dX7_lowestOf_16 rfl (lv_at hl 1 rfl) ?_
          exact q_retI X hH hr hlk hf (Nat.zero_le _) (Nat.zero_le _) dX7_lowestOf_17
  refine lv_iconst (v := 0) hx hb dX7_lowestOf_0 (by decide) ?_
  refine lv_istore_n (lv' := [(1, .int 0), (0, .int a0)]) hx hb dX7_lowestOf_1 rfl hl (by decide) rfl (fun ls hl => ?_)
  exact hL2 4096 S a0 0 hf H locs ls hH (lv_sub hl [1, 0] rfl)
-- X0_leastApart
def f_X0_leastApart_J52 (post : Int32 → PS → Prop) (g6 : PS → Nat → Int32 → Int32 → Int32 → Int32 → Prop) (S : PS) (l0 : Nat) (l1 : Int32) (l2 : Int32) (l3 : Int32) (l4 : Int32) : Prop :=
  g6 S l0 l1 l2 l3 (l4 + 1)
def f_X0_leastApart_L6 (post : Int32 → PS → Prop) : Nat → PS → Nat → Int32 → Int32 → Int32 → Int32 → Prop
  | 0, _, _, _, _, _, _ => False
  | n + 1, S, l0, l1, l2, l3, l4 =>
  gI S l0 4 1 fun v1 => (
  if v1 ≤ l4 then
    post l3 S
  else
    gR S l0 4 0 fun v3 => (
    lE S v3 fun v4 => (
    if v4 ≤ l4 then
      post l3 S
    else
      f_X7_isIn S l4 l1 fun v7 S6 => (
      f_X7_isIn S6 l4 l2 fun v9 S8 => (
      if v7 = v9 then
        f_X0_leastApart_J52 post (f_X0_leastApart_L6 post n) S8 l0 l1 l2 l3 l4
      else
        gR S8 l0 4 0 fun v11 => (
        aI S8 v11 0 l4 fun v12 => (
        f_X0_leastApart_J52 post (f_X0_leastApart_L6 post n) S8 l0 l1 l2 (if v12 < l3 then v12 else l3) l4)))))))
def f_X0_leastApart (S : PS) (a0 : Nat) (a1 : Int32) (a2 : Int32) (post : Int32 → PS → Prop) : Prop :=
  f_X0_leastApart_L6 post 4096 S a0 a1 a2 2147483647 1
abbrev rm_X0_leastApart : Room := { frames := 1, cells := 0, slots := 0, locals := 21 }
set_option maxHeartbeats 4000000 in
set_option maxRecDepth 100000 in
theorem c_X0_leastApart (l : Launch) (D : va_G) (cy : Nat → ClassId) (G : p_GT) (hG : p_ok G) (S : PS) (a0 : Nat) (a1 : Int32) (a2 : Int32) (post : Int32 → PS → Prop) (sz : Nat) (hf : f_X0_leastApart S a0 a1 a2 post) : p_Mi l D cy G S sz yX0_leastApart (Cond.code yX0_leastApart cX0_leastApart 5 (some .int) :: wG) rm_X0_leastApart [.ref a0, .int a1, .int a2] 0 0 post := by
  refine q_start hG (Qc := fun A => va_Qi post (p_Post D cy A) A) mf_X0_leastApart (Nat.le_of_ble_eq_true rfl) (own := RX0) rfl ?_
  intro p e s m below meth c A X hr hlk hnm ls hl hH
  have hx := X.1.1
  have hb := X.1.2.1
  replace hl : lv_has ls 5 [(0, .ref a0), (1, .int a1), (2, .int a2)] := hl
  obtain ⟨H, hHe⟩ : ∃ H, H = s.heap := ⟨_, rfl⟩
  obtain ⟨locs, hlo⟩ : ∃ locs : List Loc, locs = [] := ⟨_, rfl⟩
  rw [← hHe, ← hlo] at hH
  show W p l e rm_X0_leastApart s m [.ref a0, .int a1, .int a2].toArray below meth c s.heap [] 0 0 _ _
  rw [← hHe, ← hlo]
  have hL6 : ∀ (n6 : Nat) (S : PS) (l0 : Nat) (l1 : Int32) (l2 : Int32) (l3 : Int32) (l4 : Int32), f_X0_leastApart_L6 post n6 S l0 l1 l2 l3 l4 → ∀ (H : Heap) (locs : List Loc) (ls : Array Slot), p_H D cy S A s H locs → lv_has ls 5 [(0, .ref l0), (1, .int l1), (2, .int l2), (3, .int l3), (4, .int l4)] → W p l e rm_X0_leastApart s m [.ref a0, .int a1, .int a2].toArray below meth c H locs 0 0 (MQ below (va_Qi post (p_Post D cy A) A) [.ref a0, .int a1, .int a2].toArray s 0 0 A) (F0 m 6 ls []) := by
    intro n6
    induction n6 with
    | zero => intro S l0 l1 l2 l3 l4 hf; exact hf.elim
    | succ n6 ih6 =>
      intro S l0 l1 l2 l3 l4 hf H locs ls hH hl
      have hJ52 : ∀ (S : PS) (l0 : Nat) (l1 : Int32) (l2 : Int32) (l3 : Int32) (l4 : Int32), f_X0_leastApart_J52 post (f_X0_leastApart_L6 post n6) S l0 l1 l2 l3 l4 → ∀ (H : Heap) (locs : List Loc) (ls : Array Slot), p_H D cy S A s H locs → lv_has ls 5 [(0, .ref l0), (1, .int l1), (2, .int l2), (3, .int l3), (4, .int l4)] → W p l e rm_X0_leastApart s m [.ref a0, .int a1, .int a2].toArray below meth c H locs 0 0 (MQ below (va_Qi post (p_Post D cy A) A) [.ref a0, .int a1, .int a2].toArray s 0 0 A) (F0 m 52 ls []) := by
        intro S l0 l1 l2 l3 l4 hf H locs ls hH hl
        refine lv_iinc (v := l4 + 1) (lv' := [(4, .int (l4 + 1)), (0, .ref l0), (1, .int l1), (2, .int l2), (3, .int l3)]) hx hb dX0_leastApart_52 hl (k := 4) rfl rfl (by decide) rfl (fun ls hl => ?_)
        refine lv_goto (tgt := 6) hx hb dX0_leastApart_55 (by decide) ?_
        exact ih6 S l0 l1 l2 l3 (l4 + 1) hf H locs ls hH (lv_sub hl [1, 2, 3, 4, 0] rfl)
      refine lv_iload hx hb dX0_leastApart_6 (lv_at hl 4 rfl) ?_
      refine lv_aload_n hx hb dX0_leastApart_8 rfl (lv_at hl 0 rfl) ?_
      refine q_getI (T := TX0) (N := 2) X hH hf iw_X0 rfl (by decide) tw_215 (fun _ h => h) dX0_leastApart_9 (fun v1 hf => ?_)
      refine lv_icmp_ge (tgt := 58) hx hb dX0_leastApart_12 (by decide) (fun c2 => ?_) (fun c2 => ?_)
      · have hf := (if_pos c2).mp hf
        refine lv_iload_n hx hb dX0_leastApart_58 rfl (lv_at hl 3 rfl) ?_
        exact q_retI X hH hr hlk hf (Nat.zero_le _) (Nat.zero_le _) dX0_leastApart_59
      · have hf := (if_neg c2).mp hf
        refine lv_iload hx hb dX0_leastApart_15 (lv_at hl 4 rfl) ?_
        refine lv_aload_n hx hb dX0_leastApart_17 rfl (lv_at hl 0 rfl) ?_
        refine q_getR (T := TX0) (N := 2) X hH hf iw_X0 rfl (by decide) tw_214 (fun _ h => h) dX0_leastApart_18 (fun v3 hf => ?_)
        refine q_alen X hH hf dX0_leastApart_21 (fun v4 hf => ?_)
        refine lv_icmp_ge (tgt := 58) hx hb dX0_leastApart_22 (by decide) (fun c5 => ?_) (fun c5 => ?_)
        · have hf := (if_pos c5).mp hf
          refine lv_iload_n hx hb dX0_leastApart_58 rfl (lv_at hl 3 rfl) ?_
          exact q_retI X hH hr hlk hf (Nat.zero_le _) (Nat.zero_le _) dX0_leastApart_59
        · have hf := (if_neg c5).mp hf
          refine lv_iload hx hb dX0_leastApart_25 (lv_at hl 4 rfl) ?_
          refine lv_iload_n hx hb dX0_leastApart_27 rfl (lv_at hl 1 rfl) ?_
          refine q_backI0 X hH (q_runSN [.int l4, .int l1] [] X hH hl (c_X7_isIn l D cy G X.2.2.2.1 S l4 l1 _ _ hf) mf_X7_isIn tw_369 (List.mem_of_getElem? (i := 15) rfl) ⟨Nat.le_of_ble_eq_true rfl, Nat.le_of_ble_eq_true rfl⟩ rfl (Nat.le_of_ble_eq_true rfl) dX0_leastApart_28 ⟨Nat.le_of_ble_eq_true rfl, Nat.le_of_ble_eq_true rfl⟩) (fun v7 S6 hf H locs hH => ?_)
          refine lv_iload hx hb dX0_leastApart_31 (lv_at hl 4 rfl) ?_
          refine lv_iload_n hx hb dX0_leastApart_33 rfl (lv_at hl 2 rfl) ?_
          refine q_backI0 X hH (q_runSN [.int l4, .int l2] [.int v7] X hH hl (c_X7_isIn l D cy G X.2.2.2.1 S6 l4 l2 _ _ hf) mf_X7_isIn tw_369 (List.mem_of_getElem? (i := 15) rfl) ⟨Nat.le_of_ble_eq_true rfl, Nat.le_of_ble_eq_true rfl⟩ rfl (Nat.le_of_ble_eq_true rfl) dX0_leastApart_34 ⟨Nat.le_of_ble_eq_true rfl, Nat.le_of_ble_eq_true rfl⟩) (fun v9 S8 hf H locs hH => ?_)
          refine lv_icmp_eq (tgt := 52) hx hb dX0_leastApart_37 (by decide) (fun c10 => ?_) (fun c10 => ?_)
          · have hf := (if_pos c10).mp hf
            exact hJ52 S8 l0 l1 l2 l3 l4 hf H locs ls hH hl
          · have hf := (if_neg c10).mp hf
            refine lv_iload_n hx hb dX0_leastApart_40 rfl (lv_at hl 3 rfl) ?_
            refine lv_aload_n hx hb dX0_leastApart_41 rfl (lv_at hl 0 rfl) ?_
            refine q_getR (T := TX0) (N := 2) X hH hf iw_X0 rfl (by decide) tw_214 (fun _ h => h) dX0_leastApart_42 (fun v11 hf => ?_)
            refine lv_iload hx hb dX0_leastApart_45 (lv_at hl 4 rfl) ?_
            refine q_iald X hH hf dX0_leastApart_47 (fun v12 hf => ?_)
            refine q_mmin X hl tw_505 tw_475 tw_110 tw_476 ⟨Nat.le_of_ble_eq_true rfl, Nat.le_of_ble_eq_true rfl⟩ (Nat.le_of_ble_eq_true rfl) (Nat.zero_le _) (Nat.zero_le _) dX0_leastApart_48 ?_
            refine lv_istore_n (lv' := [(3, .int ((if v12 < l3 then v12 else l3))), (0, .ref l0), (1, .int l1), (2, .int l2), (4, .int l4)]) hx hb dX0_leastApart_51 rfl hl (by decide) rfl (fun ls hl => ?_)
            exact hJ52 S8 l0 l1 l2 (if v12 < l3 then v12 else l3) l4 hf H locs ls hH (lv_sub hl [1, 2, 3, 0, 4] rfl)
  refine lv_ldc (v := 2147483647) hx hb X.1.2.2.2.1 (X.1.2.2.2.2 _ tw_504) dX0_leastApart_0 ?_
  refine lv_istore_n (lv' := [(3, .int 2147483647), (0, .ref a0), (1, .int a1), (2, .int a2)]) hx hb dX0_leastApart_2 rfl hl (by decide) rfl (fun ls hl => ?_)
  refine lv_iconst (v := 1) hx hb dX0_leastApart_3 (by decide) ?_
  refine lv_istore (lv' := [(4, .int 1), (3, .int 2147483647), (0, .ref a0), (1, .int a1), (2, .int a2)]) hx hb dX0_leastApart_4 hl (by decide) rfl (fun ls hl => ?_)
  exact hL6 4096 S a0 a1 a2 2147483647 1 hf H locs ls hH (lv_sub hl [2, 3, 4, 1, 0] rfl)
-- X1_stepBack
def f_X1_stepBack (S : PS) (a0 : Nat) (a1 : Int32) (post : Int32 → PS → Prop) : Prop :=
  isO S a0 5 (
  f_X1_isThere S a0 a1 fun v2 S1 => (
  if v2 = 0 then
    post (-1) S1
  else
    gR S1 a0 5 1 fun v4 => (
    aI S1 v4 0 a1 fun v5 => (
    post v5 S1))))
abbrev rm_X1_stepBack : Room := { frames := 1, cells := 0, slots := 0, locals := 21 }
set_option maxHeartbeats 4000000 in
set_option maxRecDepth 100000 in
theorem c_X1_stepBack (l : Launch) (D : va_G) (cy : Nat → ClassId) (G : p_GT) (hG : p_ok G) (S : PS) (a0 : Nat) (a1 : Int32) (post : Int32 → PS → Prop) (sz : Nat) (hf : f_X1_stepBack S a0 a1 post) : p_Mi l D cy G S sz yX1_stepBack (Cond.code yX1_stepBack cX1_stepBack 2 (some .int) :: wG) rm_X1_stepBack [.ref a0, .int a1] 0 0 post := by
  refine q_start hG (Qc := fun A => va_Qi post (p_Post D cy A) A) mf_X1_stepBack (Nat.le_of_ble_eq_true rfl) (own := RX1) rfl ?_
  intro p e s m below meth c A X hr hlk hnm ls hl hH
  have hx := X.1.1
  have hb := X.1.2.1
  replace hl : lv_has ls 2 [(0, .ref a0), (1, .int a1)] := hl
  obtain ⟨H, hHe⟩ : ∃ H, H = s.heap := ⟨_, rfl⟩
  obtain ⟨locs, hlo⟩ : ∃ locs : List Loc, locs = [] := ⟨_, rfl⟩
  rw [← hHe, ← hlo] at hH
  show W p l e rm_X1_stepBack s m [.ref a0, .int a1].toArray below meth c s.heap [] 0 0 _ _
  rw [← hHe, ← hlo]
  refine lv_aload_n hx hb dX1_stepBack_0 rfl (lv_at hl 0 rfl) ?_
  refine lv_iload_n hx hb dX1_stepBack_1 rfl (lv_at hl 1 rfl) ?_
  obtain ⟨hb1, hb2, hf⟩ := hf
  refine q_backI0 X hH (q_runV [.int a1] [] X hH hl (c_X1_isThere l D cy G X.2.2.2.1 S a0 a1 _ _ hf) mf_X1_isThere mv_X1_isThere tw_525 ⟨Nat.le_of_ble_eq_true rfl, Nat.le_of_ble_eq_true rfl⟩ hb1 hb2 (T := TX1) (N := 3) rfl rfl (Nat.le_of_ble_eq_true rfl) dX1_stepBack_2 ⟨Nat.le_of_ble_eq_true rfl, Nat.le_of_ble_eq_true rfl⟩) (fun v2 S1 hf H locs hH => ?_)
  refine lv_if_eq (tgt := 17) hx hb dX1_stepBack_5 (by decide) (fun c3 => ?_) (fun c3 => ?_)
  · have hf := (if_pos c3).mp hf
    refine lv_iconst (v := (-1)) hx hb dX1_stepBack_17 (by decide) ?_
    exact q_retI X hH hr hlk hf (Nat.zero_le _) (Nat.zero_le _) dX1_stepBack_18
  · have hf := (if_neg c3).mp hf
    refine lv_aload_n hx hb dX1_stepBack_8 rfl (lv_at hl 0 rfl) ?_
    refine q_getR (T := TX1) (N := 3) X hH hf iw_X1 rfl (by decide) tw_228 (fun _ h => h) dX1_stepBack_9 (fun v4 hf => ?_)
    refine lv_iload_n hx hb dX1_stepBack_12 rfl (lv_at hl 1 rfl) ?_
    refine q_iald X hH hf dX1_stepBack_13 (fun v5 hf => ?_)
    refine lv_goto (tgt := 18) hx hb dX1_stepBack_14 (by decide) ?_
    exact q_retI X hH hr hlk hf (Nat.zero_le _) (Nat.zero_le _) dX1_stepBack_18
-- X1_roomOn
def f_X1_roomOn (S : PS) (a0 : Nat) (a1 : Int32) (a2 : Int32) (post : Int32 → PS → Prop) : Prop :=
  isO S a0 5 (
  f_X1_isThere S a0 a1 fun v2 S1 => (
  if v2 = 0 then
    post 0 S1
  else
    isO S1 a0 5 (
    f_X1_isThere S1 a0 a2 fun v5 S4 => (
    if v5 = 0 then
      post 0 S4
    else
      gR S4 a0 5 0 fun v7 => (
      aI S4 v7 0 ((a1 * 9) + a2) fun v8 => (
      post v8 S4))))))
abbrev rm_X1_roomOn : Room := { frames := 1, cells := 0, slots := 0, locals := 21 }
set_option maxHeartbeats 4000000 in
set_option maxRecDepth 100000 in
theorem c_X1_roomOn (l : Launch) (D : va_G) (cy : Nat → ClassId) (G : p_GT) (hG : p_ok G) (S : PS) (a0 : Nat) (a1 : Int32) (a2 : Int32) (post : Int32 → PS → Prop) (sz : Nat) (hf : f_X1_roomOn S a0 a1 a2 post) : p_Mi l D cy G S sz yX1_roomOn (Cond.code yX1_roomOn cX1_roomOn 3 (some .int) :: wG) rm_X1_roomOn [.ref a0, .int a1, .int a2] 0 0 post := by
  refine q_start hG (Qc := fun A => va_Qi post (p_Post D cy A) A) mf_X1_roomOn (Nat.le_of_ble_eq_true rfl) (own := RX1) rfl ?_
  intro p e s m below meth c A X hr hlk hnm ls hl hH
  have hx := X.1.1
  have hb := X.1.2.1
  replace hl : lv_has ls 3 [(0, .ref a0), (1, .int a1), (2, .int a2)] := hl
  obtain ⟨H, hHe⟩ : ∃ H, H = s.heap := ⟨_, rfl⟩
  obtain ⟨locs, hlo⟩ : ∃ locs : List Loc, locs = [] := ⟨_, rfl⟩
  rw [← hHe, ← hlo] at hH
  show W p l e rm_X1_roomOn s m [.ref a0, .int a1, .int a2].toArray below meth c s.heap [] 0 0 _ _
  rw [← hHe, ← hlo]
  refine lv_aload_n hx hb dX1_roomOn_0 rfl (lv_at hl 0 rfl) ?_
  refine lv_iload_n hx hb dX1_roomOn_1 rfl (lv_at hl 1 rfl) ?_
  obtain ⟨hb1, hb2, hf⟩ := hf
  refine q_backI0 X hH (q_runV [.int a1] [] X hH hl (c_X1_isThere l D cy G X.2.2.2.1 S a0 a1 _ _ hf) mf_X1_isThere mv_X1_isThere tw_525 ⟨Nat.le_of_ble_eq_true rfl, Nat.le_of_ble_eq_true rfl⟩ hb1 hb2 (T := TX1) (N := 3) rfl rfl (Nat.le_of_ble_eq_true rfl) dX1_roomOn_2 ⟨Nat.le_of_ble_eq_true rfl, Nat.le_of_ble_eq_true rfl⟩) (fun v2 S1 hf H locs hH => ?_)
  refine lv_if_eq (tgt := 30) hx hb dX1_roomOn_5 (by decide) (fun c3 => ?_) (fun c3 => ?_)
  · have hf := (if_pos c3).mp hf
    refine lv_iconst (v := 0) hx hb dX1_roomOn_30 (by decide) ?_
    exact q_retI X hH hr hlk hf (Nat.zero_le _) (Nat.zero_le _) dX1_roomOn_31
  · have hf := (if_neg c3).mp hf
    refine lv_aload_n hx hb dX1_roomOn_8 rfl (lv_at hl 0 rfl) ?_
    refine lv_iload_n hx hb dX1_roomOn_9 rfl (lv_at hl 2 rfl) ?_
    obtain ⟨hb1, hb2, hf⟩ := hf
    refine q_backI0 X hH (q_runV [.int a2] [] X hH hl (c_X1_isThere l D cy G X.2.2.2.1 S1 a0 a2 _ _ hf) mf_X1_isThere mv_X1_isThere tw_525 ⟨Nat.le_of_ble_eq_true rfl, Nat.le_of_ble_eq_true rfl⟩ hb1 hb2 (T := TX1) (N := 3) rfl rfl (Nat.le_of_ble_eq_true rfl) dX1_roomOn_10 ⟨Nat.le_of_ble_eq_true rfl, Nat.le_of_ble_eq_true rfl⟩) (fun v5 S4 hf H locs hH => ?_)
    refine lv_if_eq (tgt := 30) hx hb dX1_roomOn_13 (by decide) (fun c6 => ?_) (fun c6 => ?_)
    · have hf := (if_pos c6).mp hf
      refine lv_iconst (v := 0) hx hb dX1_roomOn_30 (by decide) ?_
      exact q_retI X hH hr hlk hf (Nat.zero_le _) (Nat.zero_le _) dX1_roomOn_31
    · have hf := (if_neg c6).mp hf
      refine lv_aload_n hx hb dX1_roomOn_16 rfl (lv_at hl 0 rfl) ?_
      refine q_getR (T := TX1) (N := 3) X hH hf iw_X1 rfl (by decide) tw_227 (fun _ h => h) dX1_roomOn_17 (fun v7 hf => ?_)
      refine lv_iload_n hx hb dX1_roomOn_20 rfl (lv_at hl 1 rfl) ?_
      refine lv_bipush (v := 9) hx hb dX1_roomOn_21 (by decide) ?_
      refine lv_imul hx hb dX1_roomOn_23 ?_
      refine lv_iload_n hx hb dX1_roomOn_24 rfl (lv_at hl 2 rfl) ?_
      refine lv_iadd hx hb dX1_roomOn_25 ?_
      refine q_iald X hH hf dX1_roomOn_26 (fun v8 hf => ?_)
      refine lv_goto (tgt := 31) hx hb dX1_roomOn_27 (by decide) ?_
      exact q_retI X hH hr hlk hf (Nat.zero_le _) (Nat.zero_le _) dX1_roomOn_31
-- X1_widen
def f_X1_widen (S : PS) (a0 : Nat) (a1 : Int32) (a2 : Int32) (a3 : Int32) (post : PS → Prop) : Prop :=
  isO S a0 5 (
  f_X1_isThere S a0 a1 fun v2 S1 => (
  if v2 = 0 then
    post S1
  else
    isO S1 a0 5 (
    f_X1_isThere S1 a0 a2 fun v5 S4 => (
    if v5 = 0 then
      post S4
    else
      gR S4 a0 5 0 fun v7 => (
      aI S4 v7 0 ((a1 * 9) + a2) fun v8 => (
      sI S4 v7 0 ((a1 * 9) + a2) (v8 + a3) fun S9 => (
      post S9)))))))
abbrev rm_X1_widen : Room := { frames := 1, cells := 0, slots := 0, locals := 21 }
set_option maxHeartbeats 4000000 in
set_option maxRecDepth 100000 in
theorem c_X1_widen (l : Launch) (D : va_G) (cy : Nat → ClassId) (G : p_GT) (hG : p_ok G) (S : PS) (a0 : Nat) (a1 : Int32) (a2 : Int32) (a3 : Int32) (post : PS → Prop) (sz : Nat) (hf : f_X1_widen S a0 a1 a2 a3 post) : p_Mv l D cy G S sz yX1_widen (Cond.code yX1_widen cX1_widen 4 none :: wG) rm_X1_widen [.ref a0, .int a1, .int a2, .int a3] 0 0 post := by
  refine q_start hG (Qc := fun A => va_Qv post (p_Post D cy A) A) mf_X1_widen (Nat.le_of_ble_eq_true rfl) (own := RX1) rfl ?_
  intro p e s m below meth c A X hr hlk hnm ls hl hH
  have hx := X.1.1
  have hb := X.1.2.1
  replace hl : lv_has ls 4 [(0, .ref a0), (1, .int a1), (2, .int a2), (3, .int a3)] := hl
  obtain ⟨H, hHe⟩ : ∃ H, H = s.heap := ⟨_, rfl⟩
  obtain ⟨locs, hlo⟩ : ∃ locs : List Loc, locs = [] := ⟨_, rfl⟩
  rw [← hHe, ← hlo] at hH
  show W p l e rm_X1_widen s m [.ref a0, .int a1, .int a2, .int a3].toArray below meth c s.heap [] 0 0 _ _
  rw [← hHe, ← hlo]
  refine lv_aload_n hx hb dX1_widen_0 rfl (lv_at hl 0 rfl) ?_
  refine lv_iload_n hx hb dX1_widen_1 rfl (lv_at hl 1 rfl) ?_
  obtain ⟨hb1, hb2, hf⟩ := hf
  refine q_backI0 X hH (q_runV [.int a1] [] X hH hl (c_X1_isThere l D cy G X.2.2.2.1 S a0 a1 _ _ hf) mf_X1_isThere mv_X1_isThere tw_525 ⟨Nat.le_of_ble_eq_true rfl, Nat.le_of_ble_eq_true rfl⟩ hb1 hb2 (T := TX1) (N := 3) rfl rfl (Nat.le_of_ble_eq_true rfl) dX1_widen_2 ⟨Nat.le_of_ble_eq_true rfl, Nat.le_of_ble_eq_true rfl⟩) (fun v2 S1 hf H locs hH => ?_)
  refine lv_if_eq (tgt := 31) hx hb dX1_widen_5 (by decide) (fun c3 => ?_) (fun c3 => ?_)
  · have hf := (if_pos c3).mp hf
    exact q_retV X hH hr hlk hf (Nat.zero_le _) (Nat.zero_le _) dX1_widen_31
  · have hf := (if_neg c3).mp hf
    refine lv_aload_n hx hb dX1_widen_8 rfl (lv_at hl 0 rfl) ?_
    refine lv_iload_n hx hb dX1_widen_9 rfl (lv_at hl 2 rfl) ?_
    obtain ⟨hb1, hb2, hf⟩ := hf
    refine q_backI0 X hH (q_runV [.int a2] [] X hH hl (c_X1_isThere l D cy G X.2.2.2.1 S1 a0 a2 _ _ hf) mf_X1_isThere mv_X1_isThere tw_525 ⟨Nat.le_of_ble_eq_true rfl, Nat.le_of_ble_eq_true rfl⟩ hb1 hb2 (T := TX1) (N := 3) rfl rfl (Nat.le_of_ble_eq_true rfl) dX1_widen_10 ⟨Nat.le_of_ble_eq_true rfl, Nat.le_of_ble_eq_true rfl⟩) (fun v5 S4 hf H locs hH => ?_)
    refine lv_if_eq (tgt := 31) hx hb dX1_widen_13 (by decide) (fun c6 => ?_) (fun c6 => ?_)
    · have hf := (if_pos c6).mp hf
      exact q_retV X hH hr hlk hf (Nat.zero_le _) (Nat.zero_le _) dX1_widen_31
    · have hf := (if_neg c6).mp hf
      refine lv_aload_n hx hb dX1_widen_16 rfl (lv_at hl 0 rfl) ?_
      refine q_getR (T := TX1) (N := 3) X hH hf iw_X1 rfl (by decide) tw_227 (fun _ h => h) dX1_widen_17 (fun v7 hf => ?_)
      refine lv_iload_n hx hb dX1_widen_20 rfl (lv_at hl 1 rfl) ?_
      refine lv_bipush (v := 9) hx hb dX1_widen_21 (by decide) ?_
      refine lv_imul hx hb dX1_widen_23 ?_
      refine lv_iload_n hx hb dX1_widen_24 rfl (lv_at hl 2 rfl) ?_
      refine lv_iadd hx hb dX1_widen_25 ?_
      refine lv_dup2_11 hx hb dX1_widen_26 rfl rfl ?_
      refine q_iald X hH hf dX1_widen_27 (fun v8 hf => ?_)
      refine lv_iload_n hx hb dX1_widen_28 rfl (lv_at hl 3 rfl) ?_
      refine lv_iadd hx hb dX1_widen_29 ?_
      refine q_iast X hH hf dX1_widen_30 (fun S9 hf H locs hH => ?_)
      exact q_retV X hH hr hlk hf (Nat.zero_le _) (Nat.zero_le _) dX1_widen_31
-- X3_strongestOf
def f_X3_strongestOf_J45 (post : Int32 → PS → Prop) (g7 : PS → Nat → Int32 → Int32 → Int32 → Int32 → Prop) (S : PS) (l0 : Nat) (l1 : Int32) (l2 : Int32) (l3 : Int32) (l4 : Int32) : Prop :=
  g7 S l0 l1 l2 l3 (l4 + 1)
def f_X3_strongestOf_L7 (post : Int32 → PS → Prop) : Nat → PS → Nat → Int32 → Int32 → Int32 → Int32 → Prop
  | 0, _, _, _, _, _, _ => False
  | n + 1, S, l0, l1, l2, l3, l4 =>
  if 9 ≤ l4 then
    post l2 S
  else
    f_X7_isIn S l1 l4 fun v3 S2 => (
    if v3 = 0 then
      f_X3_strongestOf_J45 post (f_X3_strongestOf_L7 post n) S2 l0 l1 l2 l3 l4
    else
      gR S2 l0 7 4 fun v5 => (
      aI S2 v5 0 l4 fun v6 => (
      if v6 ≤ l3 then
        f_X3_strongestOf_J45 post (f_X3_strongestOf_L7 post n) S2 l0 l1 l2 l3 l4
      else
        gR S2 l0 7 4 fun v8 => (
        aI S2 v8 0 l4 fun v9 => (
        f_X3_strongestOf_J45 post (f_X3_strongestOf_L7 post n) S2 l0 l1 l4 v9 l4)))))
def f_X3_strongestOf (S : PS) (a0 : Nat) (a1 : Int32) (post : Int32 → PS → Prop) : Prop :=
  f_X3_strongestOf_L7 post 4096 S a0 a1 0 (-1) 0
abbrev rm_X3_strongestOf : Room := { frames := 1, cells := 0, slots := 0, locals := 21 }
set_option maxHeartbeats 4000000 in
set_option maxRecDepth 100000 in
theorem c_X3_strongestOf (l : Launch) (D : va_G) (cy : Nat → ClassId) (G : p_GT) (hG : p_ok G) (S : PS) (a0 : Nat) (a1 : Int32) (post : Int32 → PS → Prop) (sz : Nat) (hf : f_X3_strongestOf S a0 a1 post) : p_Mi l D cy G S sz yX3_strongestOf (Cond.code yX3_strongestOf cX3_strongestOf 5 (some .int) :: wG) rm_X3_strongestOf [.ref a0, .int a1] 0 0 post := by
  refine q_start hG (Qc := fun A => va_Qi post (p_Post D cy A) A) mf_X3_strongestOf (Nat.le_of_ble_eq_true rfl) (own := RX3) rfl ?_
  intro p e s m below meth c A X hr hlk hnm ls hl hH
  have hx := X.1.1
  have hb := X.1.2.1
  replace hl : lv_has ls 5 [(0, .ref a0), (1, .int a1)] := hl
  obtain ⟨H, hHe⟩ : ∃ H, H = s.heap := ⟨_, rfl⟩
  obtain ⟨locs, hlo⟩ : ∃ locs : List Loc, locs = [] := ⟨_, rfl⟩
  rw [← hHe, ← hlo] at hH
  show W p l e rm_X3_strongestOf s m [.ref a0, .int a1].toArray below meth c s.heap [] 0 0 _ _
  rw [← hHe, ← hlo]
  have hL7 : ∀ (n7 : Nat) (S : PS) (l0 : Nat) (l1 : Int32) (l2 : Int32) (l3 : Int32) (l4 : Int32), f_X3_strongestOf_L7 post n7 S l0 l1 l2 l3 l4 → ∀ (H : Heap) (locs : List Loc) (ls : Array Slot), p_H D cy S A s H locs → lv_has ls 5 [(0, .ref l0), (1, .int l1), (2, .int l2), (3, .int l3), (4, .int l4)] → W p l e rm_X3_strongestOf s m [.ref a0, .int a1].toArray below meth c H locs 0 0 (MQ below (va_Qi post (p_Post D cy A) A) [.ref a0, .int a1].toArray s 0 0 A) (F0 m 7 ls []) := by
    intro n7
    induction n7 with
    | zero => intro S l0 l1 l2 l3 l4 hf; exact hf.elim
    | succ n7 ih7 =>
      intro S l0 l1 l2 l3 l4 hf H locs ls hH hl
      have hJ45 : ∀ (S : PS) (l0 : Nat) (l1 : Int32) (l2 : Int32) (l3 : Int32) (l4 : Int32), f_X3_strongestOf_J45 post (f_X3_strongestOf_L7 post n7) S l0 l1 l2 l3 l4 → ∀ (H : Heap) (locs : List Loc) (ls : Array Slot), p_H D cy S A s H locs → lv_has ls 5 [(0, .ref l0), (1, .int l1), (2, .int l2), (3, .int l3), (4, .int l4)] → W p l e rm_X3_strongestOf s m [.ref a0, .int a1].toArray below meth c H locs 0 0 (MQ below (va_Qi post (p_Post D cy A) A) [.ref a0, .int a1].toArray s 0 0 A) (F0 m 45 ls []) := by
        intro S l0 l1 l2 l3 l4 hf H locs ls hH hl
        refine lv_iinc (v := l4 + 1) (lv' := [(4, .int (l4 + 1)), (0, .ref l0), (1, .int l1), (2, .int l2), (3, .int l3)]) hx hb dX3_strongestOf_45 hl (k := 4) rfl rfl (by decide) rfl (fun ls hl => ?_)
        refine lv_goto (tgt := 7) hx hb dX3_strongestOf_48 (by decide) ?_
        exact ih7 S l0 l1 l2 l3 (l4 + 1) hf H locs ls hH (lv_sub hl [1, 2, 3, 4, 0] rfl)
      refine lv_iload hx hb dX3_strongestOf_7 (lv_at hl 4 rfl) ?_
      refine lv_bipush (v := 9) hx hb dX3_strongestOf_9 (by decide) ?_
      refine lv_icmp_ge (tgt := 51) hx hb dX3_strongestOf_11 (by decide) (fun c1 => ?_) (fun c1 => ?_)
      · have hf := (if_pos c1).mp hf
        refine lv_iload_n hx hb dX3_strongestOf_51 rfl (lv_at hl 2 rfl) ?_
        exact q_retI X hH hr hlk hf (Nat.zero_le _) (Nat.zero_le _) dX3_strongestOf_52
      · have hf := (if_neg c1).mp hf
        refine lv_iload_n hx hb dX3_strongestOf_14 rfl (lv_at hl 1 rfl) ?_
        refine lv_iload hx hb dX3_strongestOf_15 (lv_at hl 4 rfl) ?_
        refine q_backI0 X hH (q_runSN [.int l1, .int l4] [] X hH hl (c_X7_isIn l D cy G X.2.2.2.1 S l1 l4 _ _ hf) mf_X7_isIn tw_369 (List.mem_of_getElem? (i := 18) rfl) ⟨Nat.le_of_ble_eq_true rfl, Nat.le_of_ble_eq_true rfl⟩ rfl (Nat.le_of_ble_eq_true rfl) dX3_strongestOf_17 ⟨Nat.le_of_ble_eq_true rfl, Nat.le_of_ble_eq_true rfl⟩) (fun v3 S2 hf H locs hH => ?_)
        refine lv_if_eq (tgt := 45) hx hb dX3_strongestOf_20 (by decide) (fun c4 => ?_) (fun c4 => ?_)
        · have hf := (if_pos c4).mp hf
          exact hJ45 S2 l0 l1 l2 l3 l4 hf H locs ls hH hl
        · have hf := (if_neg c4).mp hf
          refine lv_aload_n hx hb dX3_strongestOf_23 rfl (lv_at hl 0 rfl) ?_
          refine q_getR (T := TX3) (N := 6) X hH hf iw_X3 rfl (by decide) tw_193 (fun _ h => h) dX3_strongestOf_24 (fun v5 hf => ?_)
          refine lv_iload hx hb dX3_strongestOf_27 (lv_at hl 4 rfl) ?_
          refine q_iald X hH hf dX3_strongestOf_29 (fun v6 hf => ?_)
          refine lv_iload_n hx hb dX3_strongestOf_30 rfl (lv_at hl 3 rfl) ?_
          refine lv_icmp_le (tgt := 45) hx hb dX3_strongestOf_31 (by decide) (fun c7 => ?_) (fun c7 => ?_)
          · have hf := (if_pos c7).mp hf
            exact hJ45 S2 l0 l1 l2 l3 l4 hf H locs ls hH hl
          · have hf := (if_neg c7).mp hf
            refine lv_aload_n hx hb dX3_strongestOf_34 rfl (lv_at hl 0 rfl) ?_
            refine q_getR (T := TX3) (N := 6) X hH hf iw_X3 rfl (by decide) tw_193 (fun _ h => h) dX3_strongestOf_35 (fun v8 hf => ?_)
            refine lv_iload hx hb dX3_strongestOf_38 (lv_at hl 4 rfl) ?_
            refine q_iald X hH hf dX3_strongestOf_40 (fun v9 hf => ?_)
            refine lv_istore_n (lv' := [(3, .int v9), (0, .ref l0), (1, .int l1), (2, .int l2), (4, .int l4)]) hx hb dX3_strongestOf_41 rfl hl (by decide) rfl (fun ls hl => ?_)
            refine lv_iload hx hb dX3_strongestOf_42 (lv_at hl 4 rfl) ?_
            refine lv_istore_n (lv' := [(2, .int l4), (3, .int v9), (0, .ref l0), (1, .int l1), (4, .int l4)]) hx hb dX3_strongestOf_44 rfl hl (by decide) rfl (fun ls hl => ?_)
            exact hJ45 S2 l0 l1 l4 v9 l4 hf H locs ls hH (lv_sub hl [2, 3, 0, 1, 4] rfl)
  refine lv_iconst (v := 0) hx hb dX3_strongestOf_0 (by decide) ?_
  refine lv_istore_n (lv' := [(2, .int 0), (0, .ref a0), (1, .int a1)]) hx hb dX3_strongestOf_1 rfl hl (by decide) rfl (fun ls hl => ?_)
  refine lv_iconst (v := (-1)) hx hb dX3_strongestOf_2 (by decide) ?_
  refine lv_istore_n (lv' := [(3, .int ((-1))), (2, .int 0), (0, .ref a0), (1, .int a1)]) hx hb dX3_strongestOf_3 rfl hl (by decide) rfl (fun ls hl => ?_)
  refine lv_iconst (v := 0) hx hb dX3_strongestOf_4 (by decide) ?_
  refine lv_istore (lv' := [(4, .int 0), (3, .int ((-1))), (2, .int 0), (0, .ref a0), (1, .int a1)]) hx hb dX3_strongestOf_5 hl (by decide) rfl (fun ls hl => ?_)
  exact hL7 4096 S a0 a1 0 (-1) 0 hf H locs ls hH (lv_sub hl [3, 4, 2, 1, 0] rfl)
-- X3_put
def f_X3_put (S : PS) (a0 : Nat) (a1 : Int32) (a2 : Int32) (a3 : Int32) (post : PS → Prop) : Prop :=
  isO S a0 7 (
  f_X3_hasPlace S a0 a1 a2 fun v2 S1 => (
  if v2 = 0 then
    post S1
  else
    gR S1 a0 7 0 fun v4 => (
    gR S1 a0 7 3 fun v5 => (
    aI S1 v5 0 a3 fun v6 => (
    sI S1 v4 0 ((a1 * 9) + a2) v6 fun S7 => (
    gR S7 a0 7 1 fun v8 => (
    gR S7 a0 7 4 fun v9 => (
    aI S7 v9 0 a3 fun v10 => (
    sI S7 v8 0 ((a1 * 9) + a2) v10 fun S11 => (
    post S11))))))))))
abbrev rm_X3_put : Room := { frames := 1, cells := 0, slots := 0, locals := 22 }
set_option maxHeartbeats 4000000 in
set_option maxRecDepth 100000 in
theorem c_X3_put (l : Launch) (D : va_G) (cy : Nat → ClassId) (G : p_GT) (hG : p_ok G) (S : PS) (a0 : Nat) (a1 : Int32) (a2 : Int32) (a3 : Int32) (post : PS → Prop) (sz : Nat) (hf : f_X3_put S a0 a1 a2 a3 post) : p_Mv l D cy G S sz yX3_put (Cond.code yX3_put cX3_put 4 none :: wG) rm_X3_put [.ref a0, .int a1, .int a2, .int a3] 0 0 post := by
  refine q_start hG (Qc := fun A => va_Qv post (p_Post D cy A) A) mf_X3_put (Nat.le_of_ble_eq_true rfl) (own := RX3) rfl ?_
  intro p e s m below meth c A X hr hlk hnm ls hl hH
  have hx := X.1.1
  have hb := X.1.2.1
  replace hl : lv_has ls 4 [(0, .ref a0), (1, .int a1), (2, .int a2), (3, .int a3)] := hl
  obtain ⟨H, hHe⟩ : ∃ H, H = s.heap := ⟨_, rfl⟩
  obtain ⟨locs, hlo⟩ : ∃ locs : List Loc, locs = [] := ⟨_, rfl⟩
  rw [← hHe, ← hlo] at hH
  show W p l e rm_X3_put s m [.ref a0, .int a1, .int a2, .int a3].toArray below meth c s.heap [] 0 0 _ _
  rw [← hHe, ← hlo]
  refine lv_aload_n hx hb dX3_put_0 rfl (lv_at hl 0 rfl) ?_
  refine lv_iload_n hx hb dX3_put_1 rfl (lv_at hl 1 rfl) ?_
  refine lv_iload_n hx hb dX3_put_2 rfl (lv_at hl 2 rfl) ?_
  obtain ⟨hb1, hb2, hf⟩ := hf
  refine q_backI0 X hH (q_runV [.int a1, .int a2] [] X hH hl (c_X3_hasPlace l D cy G X.2.2.2.1 S a0 a1 a2 _ _ hf) mf_X3_hasPlace mv_X3_hasPlace tw_461 ⟨Nat.le_of_ble_eq_true rfl, Nat.le_of_ble_eq_true rfl⟩ hb1 hb2 (T := TX3) (N := 6) rfl rfl (Nat.le_of_ble_eq_true rfl) dX3_put_3 ⟨Nat.le_of_ble_eq_true rfl, Nat.le_of_ble_eq_true rfl⟩) (fun v2 S1 hf H locs hH => ?_)
  refine lv_if_eq (tgt := 43) hx hb dX3_put_6 (by decide) (fun c3 => ?_) (fun c3 => ?_)
  · have hf := (if_pos c3).mp hf
    exact q_retV X hH hr hlk hf (Nat.zero_le _) (Nat.zero_le _) dX3_put_43
  · have hf := (if_neg c3).mp hf
    refine lv_aload_n hx hb dX3_put_9 rfl (lv_at hl 0 rfl) ?_
    refine q_getR (T := TX3) (N := 6) X hH hf iw_X3 rfl (by decide) tw_189 (fun _ h => h) dX3_put_10 (fun v4 hf => ?_)
    refine lv_iload_n hx hb dX3_put_13 rfl (lv_at hl 1 rfl) ?_
    refine lv_bipush (v := 9) hx hb dX3_put_14 (by decide) ?_
    refine lv_imul hx hb dX3_put_16 ?_
    refine lv_iload_n hx hb dX3_put_17 rfl (lv_at hl 2 rfl) ?_
    refine lv_iadd hx hb dX3_put_18 ?_
    refine lv_aload_n hx hb dX3_put_19 rfl (lv_at hl 0 rfl) ?_
    refine q_getR (T := TX3) (N := 6) X hH hf iw_X3 rfl (by decide) tw_192 (fun _ h => h) dX3_put_20 (fun v5 hf => ?_)
    refine lv_iload_n hx hb dX3_put_23 rfl (lv_at hl 3 rfl) ?_
    refine q_iald X hH hf dX3_put_24 (fun v6 hf => ?_)
    refine q_iast X hH hf dX3_put_25 (fun S7 hf H locs hH => ?_)
    refine lv_aload_n hx hb dX3_put_26 rfl (lv_at hl 0 rfl) ?_
    refine q_getR (T := TX3) (N := 6) X hH hf iw_X3 rfl (by decide) tw_190 (fun _ h => h) dX3_put_27 (fun v8 hf => ?_)
    refine lv_iload_n hx hb dX3_put_30 rfl (lv_at hl 1 rfl) ?_
    refine lv_bipush (v := 9) hx hb dX3_put_31 (by decide) ?_
    refine lv_imul hx hb dX3_put_33 ?_
    refine lv_iload_n hx hb dX3_put_34 rfl (lv_at hl 2 rfl) ?_
    refine lv_iadd hx hb dX3_put_35 ?_
    refine lv_aload_n hx hb dX3_put_36 rfl (lv_at hl 0 rfl) ?_
    refine q_getR (T := TX3) (N := 6) X hH hf iw_X3 rfl (by decide) tw_193 (fun _ h => h) dX3_put_37 (fun v9 hf => ?_)
    refine lv_iload_n hx hb dX3_put_40 rfl (lv_at hl 3 rfl) ?_
    refine q_iald X hH hf dX3_put_41 (fun v10 hf => ?_)
    refine q_iast X hH hf dX3_put_42 (fun S11 hf H locs hH => ?_)
    exact q_retV X hH hr hlk hf (Nat.zero_le _) (Nat.zero_le _) dX3_put_43
-- X3_mergeLast
def f_X3_mergeLast_L80 (post : PS → Prop) : Nat → PS → Nat → Int32 → Int32 → Int32 → Prop
  | 0, _, _, _, _, _ => False
  | n + 1, S, l0, l4, l5, l6 =>
  if 9 ≤ l6 then
    post S
  else
    gR S l0 7 2 fun v2 => (
    aI S v2 0 ((l4 * 9) + l6) fun v3 => (
    gR S l0 7 2 fun v4 => (
    aI S v4 0 ((l5 * 9) + l6) fun v5 => (
    gR S l0 7 2 fun v6 => (
    sI S v6 0 ((l4 * 9) + l6) (v3 + v5) fun S7 => (
    gR S7 l0 7 2 fun v8 => (
    sI S7 v8 0 ((l6 * 9) + l4) (v3 + v5) fun S9 => (
    (f_X3_mergeLast_L80 post n) S9 l0 l4 l5 (l6 + 1)))))))))
def f_X3_mergeLast (S : PS) (a0 : Nat) (a1 : Int32) (post : PS → Prop) : Prop :=
  isO S a0 7 (
  f_X3_groupsIn S a0 a1 fun v2 S1 => (
  isO S1 a0 7 (
  f_X3_groupAt S1 a0 a1 (v2 - 1) fun v4 S3 => (
  f_X7_lowestOf S3 v4 fun v6 S5 => (
  isO S5 a0 7 (
  f_X3_groupsIn S5 a0 a1 fun v8 S7 => (
  isO S7 a0 7 (
  f_X3_groupAt S7 a0 a1 (v8 - 2) fun v10 S9 => (
  f_X7_lowestOf S9 v10 fun v12 S11 => (
  if 0 ≤ (if v12 < v6 then v12 else v6) then
    gR S11 a0 7 3 fun v14 => (
    aI S11 v14 0 (if v12 < v6 then v12 else v6) fun v15 => (
    gR S11 a0 7 3 fun v16 => (
    aI S11 v16 0 (if v6 < v12 then v12 else v6) fun v17 => (
    sI S11 v14 0 (if v12 < v6 then v12 else v6) (v15 ||| v17) fun S18 => (
    gR S18 a0 7 3 fun v19 => (
    sI S18 v19 0 (if v6 < v12 then v12 else v6) 0 fun S20 => (
    f_X3_mergeLast_L80 post 4096 S20 a0 (if v12 < v6 then v12 else v6) (if v6 < v12 then v12 else v6) 0)))))))
  else
    post S11))))))))))
abbrev rm_X3_mergeLast : Room := { frames := 2, cells := 0, slots := 0, locals := 44 }
set_option maxHeartbeats 4000000 in
set_option maxRecDepth 100000 in
theorem c_X3_mergeLast (l : Launch) (D : va_G) (cy : Nat → ClassId) (G : p_GT) (hG : p_ok G) (S : PS) (a0 : Nat) (a1 : Int32) (post : PS → Prop) (sz : Nat) (hf : f_X3_mergeLast S a0 a1 post) : p_Mv l D cy G S sz yX3_mergeLast (Cond.code yX3_mergeLast cX3_mergeLast 8 none :: wG) rm_X3_mergeLast [.ref a0, .int a1] 0 0 post := by
  refine q_start hG (Qc := fun A => va_Qv post (p_Post D cy A) A) mf_X3_mergeLast (Nat.le_of_ble_eq_true rfl) (own := RX3) rfl ?_
  intro p e s m below meth c A X hr hlk hnm ls hl hH
  have hx := X.1.1
  have hb := X.1.2.1
  replace hl : lv_has ls 8 [(0, .ref a0), (1, .int a1)] := hl
  obtain ⟨H, hHe⟩ : ∃ H, H = s.heap := ⟨_, rfl⟩
  obtain ⟨locs, hlo⟩ : ∃ locs : List Loc, locs = [] := ⟨_, rfl⟩
  rw [← hHe, ← hlo] at hH
  show W p l e rm_X3_mergeLast s m [.ref a0, .int a1].toArray below meth c s.heap [] 0 0 _ _
  rw [← hHe, ← hlo]
  have hL80 : ∀ (n80 : Nat) (S : PS) (l0 : Nat) (l4 : Int32) (l5 : Int32) (l6 : Int32), f_X3_mergeLast_L80 post n80 S l0 l4 l5 l6 → ∀ (H : Heap) (locs : List Loc) (ls : Array Slot), p_H D cy S A s H locs → lv_has ls 8 [(0, .ref l0), (4, .int l4), (5, .int l5), (6, .int l6)] → W p l e rm_X3_mergeLast s m [.ref a0, .int a1].toArray below meth c H locs 0 0 (MQ below (va_Qv post (p_Post D cy A) A) [.ref a0, .int a1].toArray s 0 0 A) (F0 m 80 ls []) := by
    intro n80
    induction n80 with
    | zero => intro S l0 l4 l5 l6 hf; exact hf.elim
    | succ n80 ih80 =>
      intro S l0 l4 l5 l6 hf H locs ls hH hl
      refine lv_iload hx hb dX3_mergeLast_80 (lv_at hl 3 rfl) ?_
      refine lv_bipush (v := 9) hx hb dX3_mergeLast_82 (by decide) ?_
      refine lv_icmp_ge (tgt := 152) hx hb dX3_mergeLast_84 (by decide) (fun c1 => ?_) (fun c1 => ?_)
      · have hf := (if_pos c1).mp hf
        exact q_retV X hH hr hlk hf (Nat.zero_le _) (Nat.zero_le _) dX3_mergeLast_152
      · have hf := (if_neg c1).mp hf
        refine lv_aload_n hx hb dX3_mergeLast_87 rfl (lv_at hl 0 rfl) ?_
        refine q_getR (T := TX3) (N := 6) X hH hf iw_X3 rfl (by decide) tw_191 (fun _ h => h) dX3_mergeLast_88 (fun v2 hf => ?_)
        refine lv_iload hx hb dX3_mergeLast_91 (lv_at hl 1 rfl) ?_
        refine lv_bipush (v := 9) hx hb dX3_mergeLast_93 (by decide) ?_
        refine lv_imul hx hb dX3_mergeLast_95 ?_
        refine lv_iload hx hb dX3_mergeLast_96 (lv_at hl 3 rfl) ?_
        refine lv_iadd hx hb dX3_mergeLast_98 ?_
        refine q_iald X hH hf dX3_mergeLast_99 (fun v3 hf => ?_)
        refine lv_aload_n hx hb dX3_mergeLast_100 rfl (lv_at hl 0 rfl) ?_
        refine q_getR (T := TX3) (N := 6) X hH hf iw_X3 rfl (by decide) tw_191 (fun _ h => h) dX3_mergeLast_101 (fun v4 hf => ?_)
        refine lv_iload hx hb dX3_mergeLast_104 (lv_at hl 2 rfl) ?_
        refine lv_bipush (v := 9) hx hb dX3_mergeLast_106 (by decide) ?_
        refine lv_imul hx hb dX3_mergeLast_108 ?_
        refine lv_iload hx hb dX3_mergeLast_109 (lv_at hl 3 rfl) ?_
        refine lv_iadd hx hb dX3_mergeLast_111 ?_
        refine q_iald X hH hf dX3_mergeLast_112 (fun v5 hf => ?_)
        refine lv_iadd hx hb dX3_mergeLast_113 ?_
        refine lv_istore (lv' := [(7, .int (v3 + v5)), (0, .ref l0), (4, .int l4), (5, .int l5), (6, .int l6)]) hx hb dX3_mergeLast_114 hl (by decide) rfl (fun ls hl => ?_)
        refine lv_aload_n hx hb dX3_mergeLast_116 rfl (lv_at hl 1 rfl) ?_
        refine q_getR (T := TX3) (N := 6) X hH hf iw_X3 rfl (by decide) tw_191 (fun _ h => h) dX3_mergeLast_117 (fun v6 hf => ?_)
        refine lv_iload hx hb dX3_mergeLast_120 (lv_at hl 2 rfl) ?_
        refine lv_bipush (v := 9) hx hb dX3_mergeLast_122 (by decide) ?_
        refine lv_imul hx hb dX3_mergeLast_124 ?_
        refine lv_iload hx hb dX3_mergeLast_125 (lv_at hl 4 rfl) ?_
        refine lv_iadd hx hb dX3_mergeLast_127 ?_
        refine lv_iload hx hb dX3_mergeLast_128 (lv_at hl 0 rfl) ?_
        refine q_iast X hH hf dX3_mergeLast_130 (fun S7 hf H locs hH => ?_)
        refine lv_aload_n hx hb dX3_mergeLast_131 rfl (lv_at hl 1 rfl) ?_
        refine q_getR (T := TX3) (N := 6) X hH hf iw_X3 rfl (by decide) tw_191 (fun _ h => h) dX3_mergeLast_132 (fun v8 hf => ?_)
        refine lv_iload hx hb dX3_mergeLast_135 (lv_at hl 4 rfl) ?_
        refine lv_bipush (v := 9) hx hb dX3_mergeLast_137 (by decide) ?_
        refine lv_imul hx hb dX3_mergeLast_139 ?_
        refine lv_iload hx hb dX3_mergeLast_140 (lv_at hl 2 rfl) ?_
        refine lv_iadd hx hb dX3_mergeLast_142 ?_
        refine lv_iload hx hb dX3_mergeLast_143 (lv_at hl 0 rfl) ?_
        refine q_iast X hH hf dX3_mergeLast_145 (fun S9 hf H locs hH => ?_)
        refine lv_iinc (v := l6 + 1) (lv' := [(6, .int (l6 + 1)), (7, .int (v3 + v5)), (0, .ref l0), (4, .int l4), (5, .int l5)]) hx hb dX3_mergeLast_146 hl (k := 4) rfl rfl (by decide) rfl (fun ls hl => ?_)
        refine lv_goto (tgt := 80) hx hb dX3_mergeLast_149 (by decide) ?_
        exact ih80 S9 l0 l4 l5 (l6 + 1) hf H locs ls hH (lv_sub hl [2, 3, 4, 0] rfl)
  refine lv_aload_n hx hb dX3_mergeLast_0 rfl (lv_at hl 0 rfl) ?_
  refine lv_iload_n hx hb dX3_mergeLast_1 rfl (lv_at hl 1 rfl) ?_
  refine lv_aload_n hx hb dX3_mergeLast_2 rfl (lv_at hl 0 rfl) ?_
  refine lv_iload_n hx hb dX3_mergeLast_3 rfl (lv_at hl 1 rfl) ?_
  obtain ⟨hb1, hb2, hf⟩ := hf
  refine q_backI0 X hH (q_runV [.int a1] [.int a1, .ref a0] X hH hl (c_X3_groupsIn l D cy G X.2.2.2.1 S a0 a1 _ _ hf) mf_X3_groupsIn mv_X3_groupsIn tw_448 ⟨Nat.le_of_ble_eq_true rfl, Nat.le_of_ble_eq_true rfl⟩ hb1 hb2 (T := TX3) (N := 6) rfl rfl (Nat.le_of_ble_eq_true rfl) dX3_mergeLast_4 ⟨Nat.le_of_ble_eq_true rfl, Nat.le_of_ble_eq_true rfl⟩) (fun v2 S1 hf H locs hH => ?_)
  refine lv_iconst (v := 1) hx hb dX3_mergeLast_7 (by decide) ?_
  refine lv_isub hx hb dX3_mergeLast_8 ?_
  obtain ⟨hb1, hb2, hf⟩ := hf
  refine q_backI0 X hH (q_runV [.int a1, .int (v2 - 1)] [] X hH hl (c_X3_groupAt l D cy G X.2.2.2.1 S1 a0 a1 (v2 - 1) _ _ hf) mf_X3_groupAt mv_X3_groupAt tw_469 ⟨Nat.le_of_ble_eq_true rfl, Nat.le_of_ble_eq_true rfl⟩ hb1 hb2 (T := TX3) (N := 6) rfl rfl (Nat.le_of_ble_eq_true rfl) dX3_mergeLast_9 ⟨Nat.le_of_ble_eq_true rfl, Nat.le_of_ble_eq_true rfl⟩) (fun v4 S3 hf H locs hH => ?_)
  refine q_backI0 X hH (q_runSN [.int v4] [] X hH hl (c_X7_lowestOf l D cy G X.2.2.2.1 S3 v4 _ _ hf) mf_X7_lowestOf tw_420 (List.mem_of_getElem? (i := 19) rfl) ⟨Nat.le_of_ble_eq_true rfl, Nat.le_of_ble_eq_true rfl⟩ rfl (Nat.le_of_ble_eq_true rfl) dX3_mergeLast_12 ⟨Nat.le_of_ble_eq_true rfl, Nat.le_of_ble_eq_true rfl⟩) (fun v6 S5 hf H locs hH => ?_)
  refine lv_istore_n (lv' := [(2, .int v6), (0, .ref a0), (1, .int a1)]) hx hb dX3_mergeLast_15 rfl hl (by decide) rfl (fun ls hl => ?_)
  refine lv_aload_n hx hb dX3_mergeLast_16 rfl (lv_at hl 1 rfl) ?_
  refine lv_iload_n hx hb dX3_mergeLast_17 rfl (lv_at hl 2 rfl) ?_
  refine lv_aload_n hx hb dX3_mergeLast_18 rfl (lv_at hl 1 rfl) ?_
  refine lv_iload_n hx hb dX3_mergeLast_19 rfl (lv_at hl 2 rfl) ?_
  obtain ⟨hb1, hb2, hf⟩ := hf
  refine q_backI0 X hH (q_runV [.int a1] [.int a1, .ref a0] X hH hl (c_X3_groupsIn l D cy G X.2.2.2.1 S5 a0 a1 _ _ hf) mf_X3_groupsIn mv_X3_groupsIn tw_448 ⟨Nat.le_of_ble_eq_true rfl, Nat.le_of_ble_eq_true rfl⟩ hb1 hb2 (T := TX3) (N := 6) rfl rfl (Nat.le_of_ble_eq_true rfl) dX3_mergeLast_20 ⟨Nat.le_of_ble_eq_true rfl, Nat.le_of_ble_eq_true rfl⟩) (fun v8 S7 hf H locs hH => ?_)
  refine lv_iconst (v := 2) hx hb dX3_mergeLast_23 (by decide) ?_
  refine lv_isub hx hb dX3_mergeLast_24 ?_
  obtain ⟨hb1, hb2, hf⟩ := hf
  refine q_backI0 X hH (q_runV [.int a1, .int (v8 - 2)] [] X hH hl (c_X3_groupAt l D cy G X.2.2.2.1 S7 a0 a1 (v8 - 2) _ _ hf) mf_X3_groupAt mv_X3_groupAt tw_469 ⟨Nat.le_of_ble_eq_true rfl, Nat.le_of_ble_eq_true rfl⟩ hb1 hb2 (T := TX3) (N := 6) rfl rfl (Nat.le_of_ble_eq_true rfl) dX3_mergeLast_25 ⟨Nat.le_of_ble_eq_true rfl, Nat.le_of_ble_eq_true rfl⟩) (fun v10 S9 hf H locs hH => ?_)
  refine q_backI0 X hH (q_runSN [.int v10] [] X hH hl (c_X7_lowestOf l D cy G X.2.2.2.1 S9 v10 _ _ hf) mf_X7_lowestOf tw_420 (List.mem_of_getElem? (i := 19) rfl) ⟨Nat.le_of_ble_eq_true rfl, Nat.le_of_ble_eq_true rfl⟩ rfl (Nat.le_of_ble_eq_true rfl) dX3_mergeLast_28 ⟨Nat.le_of_ble_eq_true rfl, Nat.le_of_ble_eq_true rfl⟩) (fun v12 S11 hf H locs hH => ?_)
  refine lv_istore_n (lv' := [(3, .int v12), (2, .int v6), (0, .ref a0), (1, .int a1)]) hx hb dX3_mergeLast_31 rfl hl (by decide) rfl (fun ls hl => ?_)
  refine lv_iload_n hx hb dX3_mergeLast_32 rfl (lv_at hl 1 rfl) ?_
  refine lv_iload_n hx hb dX3_mergeLast_33 rfl (lv_at hl 0 rfl) ?_
  refine q_mmin X hl tw_474 tw_475 tw_110 tw_476 ⟨Nat.le_of_ble_eq_true rfl, Nat.le_of_ble_eq_true rfl⟩ (Nat.le_of_ble_eq_true rfl) (Nat.zero_le _) (Nat.zero_le _) dX3_mergeLast_34 ?_
  refine lv_istore (lv' := [(4, .int ((if v12 < v6 then v12 else v6))), (3, .int v12), (2, .int v6), (0, .ref a0), (1, .int a1)]) hx hb dX3_mergeLast_37 hl (by decide) rfl (fun ls hl => ?_)
  refine lv_iload_n hx hb dX3_mergeLast_39 rfl (lv_at hl 2 rfl) ?_
  refine lv_iload_n hx hb dX3_mergeLast_40 rfl (lv_at hl 1 rfl) ?_
  refine q_mmax X hl tw_477 tw_478 tw_110 tw_479 ⟨Nat.le_of_ble_eq_true rfl, Nat.le_of_ble_eq_true rfl⟩ (Nat.le_of_ble_eq_true rfl) (Nat.zero_le _) (Nat.zero_le _) dX3_mergeLast_41 ?_
  refine lv_istore (lv' := [(5, .int ((if v6 < v12 then v12 else v6))), (4, .int ((if v12 < v6 then v12 else v6))), (3, .int v12), (2, .int v6), (0, .ref a0), (1, .int a1)]) hx hb dX3_mergeLast_44 hl (by decide) rfl (fun ls hl => ?_)
  refine lv_iload hx hb dX3_mergeLast_46 (lv_at hl 1 rfl) ?_
  refine lv_if_ge (tgt := 52) hx hb dX3_mergeLast_48 (by decide) (fun c13 => ?_) (fun c13 => ?_)
  · have hf := (if_pos c13).mp hf
    refine lv_aload_n hx hb dX3_mergeLast_52 rfl (lv_at hl 4 rfl) ?_
    refine q_getR (T := TX3) (N := 6) X hH hf iw_X3 rfl (by decide) tw_192 (fun _ h => h) dX3_mergeLast_53 (fun v14 hf => ?_)
    refine lv_iload hx hb dX3_mergeLast_56 (lv_at hl 1 rfl) ?_
    refine lv_dup2_11 hx hb dX3_mergeLast_58 rfl rfl ?_
    refine q_iald X hH hf dX3_mergeLast_59 (fun v15 hf => ?_)
    refine lv_aload_n hx hb dX3_mergeLast_60 rfl (lv_at hl 4 rfl) ?_
    refine q_getR (T := TX3) (N := 6) X hH hf iw_X3 rfl (by decide) tw_192 (fun _ h => h) dX3_mergeLast_61 (fun v16 hf => ?_)
    refine lv_iload hx hb dX3_mergeLast_64 (lv_at hl 0 rfl) ?_
    refine q_iald X hH hf dX3_mergeLast_66 (fun v17 hf => ?_)
    refine lv_ior hx hb dX3_mergeLast_67 ?_
    refine q_iast X hH hf dX3_mergeLast_68 (fun S18 hf H locs hH => ?_)
    refine lv_aload_n hx hb dX3_mergeLast_69 rfl (lv_at hl 4 rfl) ?_
    refine q_getR (T := TX3) (N := 6) X hH hf iw_X3 rfl (by decide) tw_192 (fun _ h => h) dX3_mergeLast_70 (fun v19 hf => ?_)
    refine lv_iload hx hb dX3_mergeLast_73 (lv_at hl 0 rfl) ?_
    refine lv_iconst (v := 0) hx hb dX3_mergeLast_75 (by decide) ?_
    refine q_iast X hH hf dX3_mergeLast_76 (fun S20 hf H locs hH => ?_)
    refine lv_iconst (v := 0) hx hb dX3_mergeLast_77 (by decide) ?_
    refine lv_istore (lv' := [(6, .int 0), (5, .int ((if v6 < v12 then v12 else v6))), (4, .int ((if v12 < v6 then v12 else v6))), (3, .int v12), (2, .int v6), (0, .ref a0), (1, .int a1)]) hx hb dX3_mergeLast_78 hl (by decide) rfl (fun ls hl => ?_)
    exact hL80 4096 S20 a0 (if v12 < v6 then v12 else v6) (if v6 < v12 then v12 else v6) 0 hf H locs ls hH (lv_sub hl [5, 2, 1, 0] rfl)
  · have hf := (if_neg c13).mp hf
    exact q_retV X hH hr hlk hf (Nat.zero_le _) (Nat.zero_le _) dX3_mergeLast_51
-- X6_hasAll
def f_X6_hasAll (S : PS) (a0 : Nat) (a1 : Int32) (post : Int32 → PS → Prop) : Prop :=
  if a1 < 0 then
    nZ .boolean 0 (post 0 S)
  else
    isO S a0 10 (
    f_X6_everyone S a0 fun v3 S2 => (
    if v3 < a1 then
      nZ .boolean 0 (post 0 S2)
    else
      nZ .boolean 1 (post 1 S2)))
abbrev rm_X6_hasAll : Room := { frames := 1, cells := 0, slots := 0, locals := 20 }
set_option maxHeartbeats 4000000 in
set_option maxRecDepth 100000 in
theorem c_X6_hasAll (l : Launch) (D : va_G) (cy : Nat → ClassId) (G : p_GT) (hG : p_ok G) (S : PS) (a0 : Nat) (a1 : Int32) (post : Int32 → PS → Prop) (sz : Nat) (hf : f_X6_hasAll S a0 a1 post) : p_Mi l D cy G S sz yX6_hasAll (Cond.code yX6_hasAll cX6_hasAll 2 (some .boolean) :: wG) rm_X6_hasAll [.ref a0, .int a1] 0 0 post := by
  refine q_start hG (Qc := fun A => va_Qi post (p_Post D cy A) A) mf_X6_hasAll (Nat.le_of_ble_eq_true rfl) (own := RX6) rfl ?_
  intro p e s m below meth c A X hr hlk hnm ls hl hH
  have hx := X.1.1
  have hb := X.1.2.1
  replace hl : lv_has ls 2 [(0, .ref a0), (1, .int a1)] := hl
  obtain ⟨H, hHe⟩ : ∃ H, H = s.heap := ⟨_, rfl⟩
  obtain ⟨locs, hlo⟩ : ∃ locs : List Loc, locs = [] := ⟨_, rfl⟩
  rw [← hHe, ← hlo] at hH
  show W p l e rm_X6_hasAll s m [.ref a0, .int a1].toArray below meth c s.heap [] 0 0 _ _
  rw [← hHe, ← hlo]
  refine lv_iload_n hx hb dX6_hasAll_0 rfl (lv_at hl 1 rfl) ?_
  refine lv_if_lt (tgt := 16) hx hb dX6_hasAll_1 (by decide) (fun c1 => ?_) (fun c1 => ?_)
  · have hf := (if_pos c1).mp hf
    refine lv_iconst (v := 0) hx hb dX6_hasAll_16 (by decide) ?_
    exact q_retZ X hH hr hlk hf (Nat.zero_le _) (Nat.zero_le _) dX6_hasAll_17
  · have hf := (if_neg c1).mp hf
    refine lv_iload_n hx hb dX6_hasAll_4 rfl (lv_at hl 1 rfl) ?_
    refine lv_aload_n hx hb dX6_hasAll_5 rfl (lv_at hl 0 rfl) ?_
    obtain ⟨hb1, hb2, hf⟩ := hf
    refine q_backI0 X hH (q_runV [] [.int a1] X hH hl (c_X6_everyone l D cy G X.2.2.2.1 S a0 _ _ hf) mf_X6_everyone mv_X6_everyone tw_391 ⟨Nat.le_of_ble_eq_true rfl, Nat.le_of_ble_eq_true rfl⟩ hb1 hb2 (T := TX6) (N := 6) rfl rfl (Nat.le_of_ble_eq_true rfl) dX6_hasAll_6 ⟨Nat.le_of_ble_eq_true rfl, Nat.le_of_ble_eq_true rfl⟩) (fun v3 S2 hf H locs hH => ?_)
    refine lv_icmp_gt (tgt := 16) hx hb dX6_hasAll_9 (by decide) (fun c4 => ?_) (fun c4 => ?_)
    · have hf := (if_pos c4).mp hf
      refine lv_iconst (v := 0) hx hb dX6_hasAll_16 (by decide) ?_
      exact q_retZ X hH hr hlk hf (Nat.zero_le _) (Nat.zero_le _) dX6_hasAll_17
    · have hf := (if_neg c4).mp hf
      refine lv_iconst (v := 1) hx hb dX6_hasAll_12 (by decide) ?_
      refine lv_goto (tgt := 17) hx hb dX6_hasAll_13 (by decide) ?_
      exact q_retZ X hH hr hlk hf (Nat.zero_le _) (Nat.zero_le _) dX6_hasAll_17
-- X6_sideOf
def f_X6_sideOf (S : PS) (a0 : Nat) (a1 : Int32) (post : Int32 → PS → Prop) : Prop :=
  gI S a0 10 2 fun v1 => (
  f_X7_isIn S v1 a1 fun v3 S2 => (
  if v3 = 0 then
    post 0 S2
  else
    post 1 S2))
abbrev rm_X6_sideOf : Room := { frames := 1, cells := 0, slots := 0, locals := 21 }
set_option maxHeartbeats 4000000 in
set_option maxRecDepth 100000 in
theorem c_X6_sideOf (l : Launch) (D : va_G) (cy : Nat → ClassId) (G : p_GT) (hG : p_ok G) (S : PS) (a0 : Nat) (a1 : Int32) (post : Int32 → PS → Prop) (sz : Nat) (hf : f_X6_sideOf S a0 a1 post) : p_Mi l D cy G S sz yX6_sideOf (Cond.code yX6_sideOf cX6_sideOf 2 (some .int) :: wG) rm_X6_sideOf [.ref a0, .int a1] 0 0 post := by
  refine q_start hG (Qc := fun A => va_Qi post (p_Post D cy A) A) mf_X6_sideOf (Nat.le_of_ble_eq_true rfl) (own := RX6) rfl ?_
  intro p e s m below meth c A X hr hlk hnm ls hl hH
  have hx := X.1.1
  have hb := X.1.2.1
  replace hl : lv_has ls 2 [(0, .ref a0), (1, .int a1)] := hl
  obtain ⟨H, hHe⟩ : ∃ H, H = s.heap := ⟨_, rfl⟩
  obtain ⟨locs, hlo⟩ : ∃ locs : List Loc, locs = [] := ⟨_, rfl⟩
  rw [← hHe, ← hlo] at hH
  show W p l e rm_X6_sideOf s m [.ref a0, .int a1].toArray below meth c s.heap [] 0 0 _ _
  rw [← hHe, ← hlo]
  refine lv_aload_n hx hb dX6_sideOf_0 rfl (lv_at hl 0 rfl) ?_
  refine q_getI (T := TX6) (N := 6) X hH hf iw_X6 rfl (by decide) tw_143 (fun _ h => h) dX6_sideOf_1 (fun v1 hf => ?_)
  refine lv_iload_n hx hb dX6_sideOf_4 rfl (lv_at hl 1 rfl) ?_
  refine q_backI0 X hH (q_runSN [.int v1, .int a1] [] X hH hl (c_X7_isIn l D cy G X.2.2.2.1 S v1 a1 _ _ hf) mf_X7_isIn tw_369 (List.mem_of_getElem? (i := 20) rfl) ⟨Nat.le_of_ble_eq_true rfl, Nat.le_of_ble_eq_true rfl⟩ rfl (Nat.le_of_ble_eq_true rfl) dX6_sideOf_5 ⟨Nat.le_of_ble_eq_true rfl, Nat.le_of_ble_eq_true rfl⟩) (fun v3 S2 hf H locs hH => ?_)
  refine lv_if_eq (tgt := 15) hx hb dX6_sideOf_8 (by decide) (fun c4 => ?_) (fun c4 => ?_)
  · have hf := (if_pos c4).mp hf
    refine lv_iconst (v := 0) hx hb dX6_sideOf_15 (by decide) ?_
    exact q_retI X hH hr hlk hf (Nat.zero_le _) (Nat.zero_le _) dX6_sideOf_16
  · have hf := (if_neg c4).mp hf
    refine lv_iconst (v := 1) hx hb dX6_sideOf_11 (by decide) ?_
    refine lv_goto (tgt := 16) hx hb dX6_sideOf_12 (by decide) ?_
    exact q_retI X hH hr hlk hf (Nat.zero_le _) (Nat.zero_le _) dX6_sideOf_16
-- X6_sameSide
def f_X6_sameSide (S : PS) (a0 : Nat) (a1 : Int32) (post : Int32 → PS → Prop) : Prop :=
  isO S a0 10 (
  f_X6_sideOf S a0 a1 fun v2 S1 => (
  if v2 = 1 then
    gI S1 a0 10 2 fun v7 => (
    post v7 S1)
  else
    isO S1 a0 10 (
    f_X6_everyone S1 a0 fun v5 S4 => (
    gI S4 a0 10 2 fun v6 => (
    post (v5 &&& (v6 ^^^ (-1))) S4)))))
abbrev rm_X6_sameSide : Room := { frames := 2, cells := 0, slots := 0, locals := 42 }
set_option maxHeartbeats 4000000 in
set_option maxRecDepth 100000 in
theorem c_X6_sameSide (l : Launch) (D : va_G) (cy : Nat → ClassId) (G : p_GT) (hG : p_ok G) (S : PS) (a0 : Nat) (a1 : Int32) (post : Int32 → PS → Prop) (sz : Nat) (hf : f_X6_sameSide S a0 a1 post) : p_Mi l D cy G S sz yX6_sameSide (Cond.code yX6_sameSide cX6_sameSide 2 (some .int) :: wG) rm_X6_sameSide [.ref a0, .int a1] 0 0 post := by
  refine q_start hG (Qc := fun A => va_Qi post (p_Post D cy A) A) mf_X6_sameSide (Nat.le_of_ble_eq_true rfl) (own := RX6) rfl ?_
  intro p e s m below meth c A X hr hlk hnm ls hl hH
  have hx := X.1.1
  have hb := X.1.2.1
  replace hl : lv_has ls 2 [(0, .ref a0), (1, .int a1)] := hl
  obtain ⟨H, hHe⟩ : ∃ H, H = s.heap := ⟨_, rfl⟩
  obtain ⟨locs, hlo⟩ : ∃ locs : List Loc, locs = [] := ⟨_, rfl⟩
  rw [← hHe, ← hlo] at hH
  show W p l e rm_X6_sameSide s m [.ref a0, .int a1].toArray below meth c s.heap [] 0 0 _ _
  rw [← hHe, ← hlo]
  refine lv_aload_n hx hb dX6_sameSide_0 rfl (lv_at hl 0 rfl) ?_
  refine lv_iload_n hx hb dX6_sameSide_1 rfl (lv_at hl 1 rfl) ?_
  obtain ⟨hb1, hb2, hf⟩ := hf
  refine q_backI0 X hH (q_runV [.int a1] [] X hH hl (c_X6_sideOf l D cy G X.2.2.2.1 S a0 a1 _ _ hf) mf_X6_sideOf mv_X6_sideOf tw_364 ⟨Nat.le_of_ble_eq_true rfl, Nat.le_of_ble_eq_true rfl⟩ hb1 hb2 (T := TX6) (N := 6) rfl rfl (Nat.le_of_ble_eq_true rfl) dX6_sameSide_2 ⟨Nat.le_of_ble_eq_true rfl, Nat.le_of_ble_eq_true rfl⟩) (fun v2 S1 hf H locs hH => ?_)
  refine lv_iconst (v := 1) hx hb dX6_sameSide_5 (by decide) ?_
  refine lv_icmp_ne (tgt := 16) hx hb dX6_sameSide_6 (by decide) (fun c3 => ?_) (fun c3 => ?_)
  · have hf := (if_neg c3).mp hf
    refine lv_aload_n hx hb dX6_sameSide_16 rfl (lv_at hl 0 rfl) ?_
    obtain ⟨hb1, hb2, hf⟩ := hf
    refine q_backI0 X hH (q_runV [] [] X hH hl (c_X6_everyone l D cy G X.2.2.2.1 S1 a0 _ _ hf) mf_X6_everyone mv_X6_everyone tw_391 ⟨Nat.le_of_ble_eq_true rfl, Nat.le_of_ble_eq_true rfl⟩ hb1 hb2 (T := TX6) (N := 6) rfl rfl (Nat.le_of_ble_eq_true rfl) dX6_sameSide_17 ⟨Nat.le_of_ble_eq_true rfl, Nat.le_of_ble_eq_true rfl⟩) (fun v5 S4 hf H locs hH => ?_)
    refine lv_aload_n hx hb dX6_sameSide_20 rfl (lv_at hl 0 rfl) ?_
    refine q_getI (T := TX6) (N := 6) X hH hf iw_X6 rfl (by decide) tw_143 (fun _ h => h) dX6_sameSide_21 (fun v6 hf => ?_)
    refine lv_iconst (v := (-1)) hx hb dX6_sameSide_24 (by decide) ?_
    refine lv_ixor hx hb dX6_sameSide_25 ?_
    refine lv_iand hx hb dX6_sameSide_26 ?_
    exact q_retI X hH hr hlk hf (Nat.zero_le _) (Nat.zero_le _) dX6_sameSide_27
  · have hf := (if_pos c3).mp hf
    refine lv_aload_n hx hb dX6_sameSide_9 rfl (lv_at hl 0 rfl) ?_
    refine q_getI (T := TX6) (N := 6) X hH hf iw_X6 rfl (by decide) tw_143 (fun _ h => h) dX6_sameSide_10 (fun v7 hf => ?_)
    refine lv_goto (tgt := 27) hx hb dX6_sameSide_13 (by decide) ?_
    exact q_retI X hH hr hlk hf (Nat.zero_le _) (Nat.zero_le _) dX6_sameSide_27
-- X6_otherSide
def f_X6_otherSide (S : PS) (a0 : Nat) (a1 : Int32) (post : Int32 → PS → Prop) : Prop :=
  isO S a0 10 (
  f_X6_everyone S a0 fun v2 S1 => (
  isO S1 a0 10 (
  f_X6_sameSide S1 a0 a1 fun v4 S3 => (
  post (v2 &&& (v4 ^^^ (-1))) S3))))
abbrev rm_X6_otherSide : Room := { frames := 3, cells := 0, slots := 0, locals := 63 }
set_option maxHeartbeats 4000000 in
set_option maxRecDepth 100000 in
theorem c_X6_otherSide (l : Launch) (D : va_G) (cy : Nat → ClassId) (G : p_GT) (hG : p_ok G) (S : PS) (a0 : Nat) (a1 : Int32) (post : Int32 → PS → Prop) (sz : Nat) (hf : f_X6_otherSide S a0 a1 post) : p_Mi l D cy G S sz yX6_otherSide (Cond.code yX6_otherSide cX6_otherSide 2 (some .int) :: wG) rm_X6_otherSide [.ref a0, .int a1] 0 0 post := by
  refine q_start hG (Qc := fun A => va_Qi post (p_Post D cy A) A) mf_X6_otherSide (Nat.le_of_ble_eq_true rfl) (own := RX6) rfl ?_
  intro p e s m below meth c A X hr hlk hnm ls hl hH
  have hx := X.1.1
  have hb := X.1.2.1
  replace hl : lv_has ls 2 [(0, .ref a0), (1, .int a1)] := hl
  obtain ⟨H, hHe⟩ : ∃ H, H = s.heap := ⟨_, rfl⟩
  obtain ⟨locs, hlo⟩ : ∃ locs : List Loc, locs = [] := ⟨_, rfl⟩
  rw [← hHe, ← hlo] at hH
  show W p l e rm_X6_otherSide s m [.ref a0, .int a1].toArray below meth c s.heap [] 0 0 _ _
  rw [← hHe, ← hlo]
  refine lv_aload_n hx hb dX6_otherSide_0 rfl (lv_at hl 0 rfl) ?_
  obtain ⟨hb1, hb2, hf⟩ := hf
  refine q_backI0 X hH (q_runV [] [] X hH hl (c_X6_everyone l D cy G X.2.2.2.1 S a0 _ _ hf) mf_X6_everyone mv_X6_everyone tw_391 ⟨Nat.le_of_ble_eq_true rfl, Nat.le_of_ble_eq_true rfl⟩ hb1 hb2 (T := TX6) (N := 6) rfl rfl (Nat.le_of_ble_eq_true rfl) dX6_otherSide_1 ⟨Nat.le_of_ble_eq_true rfl, Nat.le_of_ble_eq_true rfl⟩) (fun v2 S1 hf H locs hH => ?_)
  refine lv_aload_n hx hb dX6_otherSide_4 rfl (lv_at hl 0 rfl) ?_
  refine lv_iload_n hx hb dX6_otherSide_5 rfl (lv_at hl 1 rfl) ?_
  obtain ⟨hb1, hb2, hf⟩ := hf
  refine q_backI0 X hH (q_runV [.int a1] [.int v2] X hH hl (c_X6_sameSide l D cy G X.2.2.2.1 S1 a0 a1 _ _ hf) mf_X6_sameSide mv_X6_sameSide tw_395 ⟨Nat.le_of_ble_eq_true rfl, Nat.le_of_ble_eq_true rfl⟩ hb1 hb2 (T := TX6) (N := 6) rfl rfl (Nat.le_of_ble_eq_true rfl) dX6_otherSide_6 ⟨Nat.le_of_ble_eq_true rfl, Nat.le_of_ble_eq_true rfl⟩) (fun v4 S3 hf H locs hH => ?_)
  refine lv_iconst (v := (-1)) hx hb dX6_otherSide_9 (by decide) ?_
  refine lv_ixor hx hb dX6_otherSide_10 ?_
  refine lv_iand hx hb dX6_otherSide_11 ?_
  exact q_retI X hH hr hlk hf (Nat.zero_le _) (Nat.zero_le _) dX6_otherSide_12
