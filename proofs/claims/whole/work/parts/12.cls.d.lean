-- X6_tieToSet
def f_X6_tieToSet_J33 (post : Int32 → PS → Prop) (g5 : PS → Nat → Int32 → Int32 → Int32 → Int32 → Prop) (S : PS) (l0 : Nat) (l1 : Int32) (l2 : Int32) (l3 : Int32) (l4 : Int32) : Prop :=
  g5 S l0 l1 l2 l3 (l4 + 1)
def f_X6_tieToSet_L5 (post : Int32 → PS → Prop) : Nat → PS → Nat → Int32 → Int32 → Int32 → Int32 → Prop
  | 0, _, _, _, _, _, _ => False
  | n + 1, S, l0, l1, l2, l3, l4 =>
  gI S l0 10 1 fun v1 => (
  if v1 ≤ l4 then
    post l3 S
  else
    f_X7_isIn S l2 l4 fun v4 S3 => (
    if v4 = 0 then
      f_X6_tieToSet_J33 post (f_X6_tieToSet_L5 post n) S3 l0 l1 l2 l3 l4
    else
      isO S3 l0 10 (
      f_X6_tie S3 l0 l1 l4 fun v7 S6 => (
      f_X6_tieToSet_J33 post (f_X6_tieToSet_L5 post n) S6 l0 l1 l2 (l3 + v7) l4))))
def f_X6_tieToSet (S : PS) (a0 : Nat) (a1 : Int32) (a2 : Int32) (post : Int32 → PS → Prop) : Prop :=
  f_X6_tieToSet_L5 post 4096 S a0 a1 a2 0 0
abbrev rm_X6_tieToSet : Room := { frames := 2, cells := 0, slots := 0, locals := 43 }
set_option maxHeartbeats 4000000 in
set_option maxRecDepth 100000 in
theorem c_X6_tieToSet (l : Launch) (D : va_G) (cy : Nat → ClassId) (G : p_GT) (hG : p_ok G) (S : PS) (a0 : Nat) (a1 : Int32) (a2 : Int32) (post : Int32 → PS → Prop) (sz : Nat) (hf : f_X6_tieToSet S a0 a1 a2 post) : p_Mi l D cy G S sz yX6_tieToSet (Cond.code yX6_tieToSet cX6_tieToSet 5 (some .int) :: wG) rm_X6_tieToSet [.ref a0, .int a1, .int a2] 0 0 post := by
  refine q_start hG (Qc := fun A => va_Qi post (p_Post D cy A) A) mf_X6_tieToSet (Nat.le_of_ble_eq_true rfl) (own := RX6) rfl ?_
  intro p e s m below meth c A X hr hlk hnm ls hl hH
  have hx := X.1.1
  have hb := X.1.2.1
  replace hl : lv_has ls 5 [(0, .ref a0), (1, .int a1), (2, .int a2)] := hl
  obtain ⟨H, hHe⟩ : ∃ H, H = s.heap := ⟨_, rfl⟩
  obtain ⟨locs, hlo⟩ : ∃ locs : List Loc, locs = [] := ⟨_, rfl⟩
  rw [← hHe, ← hlo] at hH
  show W p l e rm_X6_tieToSet s m [.ref a0, .int a1, .int a2].toArray below meth c s.heap [] 0 0 _ _
  rw [← hHe, ← hlo]
  have hL5 : ∀ (n5 : Nat) (S : PS) (l0 : Nat) (l1 : Int32) (l2 : Int32) (l3 : Int32) (l4 : Int32), f_X6_tieToSet_L5 post n5 S l0 l1 l2 l3 l4 → ∀ (H : Heap) (locs : List Loc) (ls : Array Slot), p_H D cy S A s H locs → lv_has ls 5 [(0, .ref l0), (1, .int l1), (2, .int l2), (3, .int l3), (4, .int l4)] → W p l e rm_X6_tieToSet s m [.ref a0, .int a1, .int a2].toArray below meth c H locs 0 0 (MQ below (va_Qi post (p_Post D cy A) A) [.ref a0, .int a1, .int a2].toArray s 0 0 A) (F0 m 5 ls []) := by
    intro n5
    induction n5 with
    | zero => intro S l0 l1 l2 l3 l4 hf; exact hf.elim
    | succ n5 ih5 =>
      intro S l0 l1 l2 l3 l4 hf H locs ls hH hl
      have hJ33 : ∀ (S : PS) (l0 : Nat) (l1 : Int32) (l2 : Int32) (l3 : Int32) (l4 : Int32), f_X6_tieToSet_J33 post (f_X6_tieToSet_L5 post n5) S l0 l1 l2 l3 l4 → ∀ (H : Heap) (locs : List Loc) (ls : Array Slot), p_H D cy S A s H locs → lv_has ls 5 [(0, .ref l0), (1, .int l1), (2, .int l2), (3, .int l3), (4, .int l4)] → W p l e rm_X6_tieToSet s m [.ref a0, .int a1, .int a2].toArray below meth c H locs 0 0 (MQ below (va_Qi post (p_Post D cy A) A) [.ref a0, .int a1, .int a2].toArray s 0 0 A) (F0 m 33 ls []) := by
        intro S l0 l1 l2 l3 l4 hf H locs ls hH hl
        refine lv_iinc (v := l4 + 1) (lv' := [(4, .int (l4 + 1)), (0, .ref l0), (1, .int l1), (2, .int l2), (3, .int l3)]) hx hb dX6_tieToSet_33 hl (k := 4) rfl rfl (by decide) rfl (fun ls hl => ?_)
        refine lv_goto (tgt := 5) hx hb dX6_tieToSet_36 (by decide) ?_
        exact ih5 S l0 l1 l2 l3 (l4 + 1) hf H locs ls hH (lv_sub hl [1, 2, 3, 4, 0] rfl)
      refine lv_iload hx hb dX6_tieToSet_5 (lv_at hl 4 rfl) ?_
      refine lv_aload_n hx hb dX6_tieToSet_7 rfl (lv_at hl 0 rfl) ?_
      refine q_getI (T := TX6) (N := 6) X hH hf iw_X6 rfl (by decide) tw_139 (fun _ h => h) dX6_tieToSet_8 (fun v1 hf => ?_)
      refine lv_icmp_ge (tgt := 39) hx hb dX6_tieToSet_11 (by decide) (fun c2 => ?_) (fun c2 => ?_)
      · have hf := (if_pos c2).mp hf
        refine lv_iload_n hx hb dX6_tieToSet_39 rfl (lv_at hl 3 rfl) ?_
        exact q_retI X hH hr hlk hf (Nat.zero_le _) (Nat.zero_le _) dX6_tieToSet_40
      · have hf := (if_neg c2).mp hf
        refine lv_iload_n hx hb dX6_tieToSet_14 rfl (lv_at hl 2 rfl) ?_
        refine lv_iload hx hb dX6_tieToSet_15 (lv_at hl 4 rfl) ?_
        refine q_backI0 X hH (q_runSN [.int l2, .int l4] [] X hH hl (c_X7_isIn l D cy G X.2.2.2.1 S l2 l4 _ _ hf) mf_X7_isIn tw_369 (List.mem_of_getElem? (i := 20) rfl) ⟨Nat.le_of_ble_eq_true rfl, Nat.le_of_ble_eq_true rfl⟩ rfl (Nat.le_of_ble_eq_true rfl) dX6_tieToSet_17 ⟨Nat.le_of_ble_eq_true rfl, Nat.le_of_ble_eq_true rfl⟩) (fun v4 S3 hf H locs hH => ?_)
        refine lv_if_eq (tgt := 33) hx hb dX6_tieToSet_20 (by decide) (fun c5 => ?_) (fun c5 => ?_)
        · have hf := (if_pos c5).mp hf
          exact hJ33 S3 l0 l1 l2 l3 l4 hf H locs ls hH hl
        · have hf := (if_neg c5).mp hf
          refine lv_iload_n hx hb dX6_tieToSet_23 rfl (lv_at hl 3 rfl) ?_
          refine lv_aload_n hx hb dX6_tieToSet_24 rfl (lv_at hl 0 rfl) ?_
          refine lv_iload_n hx hb dX6_tieToSet_25 rfl (lv_at hl 1 rfl) ?_
          refine lv_iload hx hb dX6_tieToSet_26 (lv_at hl 4 rfl) ?_
          obtain ⟨hb1, hb2, hf⟩ := hf
          refine q_backI0 X hH (q_runV [.int l1, .int l4] [.int l3] X hH hl (c_X6_tie l D cy G X.2.2.2.1 S3 l0 l1 l4 _ _ hf) mf_X6_tie mv_X6_tie tw_371 ⟨Nat.le_of_ble_eq_true rfl, Nat.le_of_ble_eq_true rfl⟩ hb1 hb2 (T := TX6) (N := 6) rfl rfl (Nat.le_of_ble_eq_true rfl) dX6_tieToSet_28 ⟨Nat.le_of_ble_eq_true rfl, Nat.le_of_ble_eq_true rfl⟩) (fun v7 S6 hf H locs hH => ?_)
          refine lv_iadd hx hb dX6_tieToSet_31 ?_
          refine lv_istore_n (lv' := [(3, .int (l3 + v7)), (0, .ref l0), (1, .int l1), (2, .int l2), (4, .int l4)]) hx hb dX6_tieToSet_32 rfl hl (by decide) rfl (fun ls hl => ?_)
          exact hJ33 S6 l0 l1 l2 (l3 + v7) l4 hf H locs ls hH (lv_sub hl [1, 2, 3, 0, 4] rfl)
  refine lv_iconst (v := 0) hx hb dX6_tieToSet_0 (by decide) ?_
  refine lv_istore_n (lv' := [(3, .int 0), (0, .ref a0), (1, .int a1), (2, .int a2)]) hx hb dX6_tieToSet_1 rfl hl (by decide) rfl (fun ls hl => ?_)
  refine lv_iconst (v := 0) hx hb dX6_tieToSet_2 (by decide) ?_
  refine lv_istore (lv' := [(4, .int 0), (3, .int 0), (0, .ref a0), (1, .int a1), (2, .int a2)]) hx hb dX6_tieToSet_3 hl (by decide) rfl (fun ls hl => ?_)
  exact hL5 4096 S a0 a1 a2 0 0 hf H locs ls hH (lv_sub hl [2, 3, 4, 1, 0] rfl)
-- X6_tieOfSets
def f_X6_tieOfSets_J33 (post : Int32 → PS → Prop) (g5 : PS → Nat → Int32 → Int32 → Int32 → Int32 → Prop) (S : PS) (l0 : Nat) (l1 : Int32) (l2 : Int32) (l3 : Int32) (l4 : Int32) : Prop :=
  g5 S l0 l1 l2 l3 (l4 + 1)
def f_X6_tieOfSets_L5 (post : Int32 → PS → Prop) : Nat → PS → Nat → Int32 → Int32 → Int32 → Int32 → Prop
  | 0, _, _, _, _, _, _ => False
  | n + 1, S, l0, l1, l2, l3, l4 =>
  gI S l0 10 1 fun v1 => (
  if v1 ≤ l4 then
    post l3 S
  else
    f_X7_isIn S l1 l4 fun v4 S3 => (
    if v4 = 0 then
      f_X6_tieOfSets_J33 post (f_X6_tieOfSets_L5 post n) S3 l0 l1 l2 l3 l4
    else
      isO S3 l0 10 (
      f_X6_tieToSet S3 l0 l4 l2 fun v7 S6 => (
      f_X6_tieOfSets_J33 post (f_X6_tieOfSets_L5 post n) S6 l0 l1 l2 (l3 + v7) l4))))
def f_X6_tieOfSets (S : PS) (a0 : Nat) (a1 : Int32) (a2 : Int32) (post : Int32 → PS → Prop) : Prop :=
  f_X6_tieOfSets_L5 post 4096 S a0 a1 a2 0 0
abbrev rm_X6_tieOfSets : Room := { frames := 3, cells := 0, slots := 0, locals := 67 }
set_option maxHeartbeats 4000000 in
set_option maxRecDepth 100000 in
theorem c_X6_tieOfSets (l : Launch) (D : va_G) (cy : Nat → ClassId) (G : p_GT) (hG : p_ok G) (S : PS) (a0 : Nat) (a1 : Int32) (a2 : Int32) (post : Int32 → PS → Prop) (sz : Nat) (hf : f_X6_tieOfSets S a0 a1 a2 post) : p_Mi l D cy G S sz yX6_tieOfSets (Cond.code yX6_tieOfSets cX6_tieOfSets 5 (some .int) :: wG) rm_X6_tieOfSets [.ref a0, .int a1, .int a2] 0 0 post := by
  refine q_start hG (Qc := fun A => va_Qi post (p_Post D cy A) A) mf_X6_tieOfSets (Nat.le_of_ble_eq_true rfl) (own := RX6) rfl ?_
  intro p e s m below meth c A X hr hlk hnm ls hl hH
  have hx := X.1.1
  have hb := X.1.2.1
  replace hl : lv_has ls 5 [(0, .ref a0), (1, .int a1), (2, .int a2)] := hl
  obtain ⟨H, hHe⟩ : ∃ H, H = s.heap := ⟨_, rfl⟩
  obtain ⟨locs, hlo⟩ : ∃ locs : List Loc, locs = [] := ⟨_, rfl⟩
  rw [← hHe, ← hlo] at hH
  show W p l e rm_X6_tieOfSets s m [.ref a0, .int a1, .int a2].toArray below meth c s.heap [] 0 0 _ _
  rw [← hHe, ← hlo]
  have hL5 : ∀ (n5 : Nat) (S : PS) (l0 : Nat) (l1 : Int32) (l2 : Int32) (l3 : Int32) (l4 : Int32), f_X6_tieOfSets_L5 post n5 S l0 l1 l2 l3 l4 → ∀ (H : Heap) (locs : List Loc) (ls : Array Slot), p_H D cy S A s H locs → lv_has ls 5 [(0, .ref l0), (1, .int l1), (2, .int l2), (3, .int l3), (4, .int l4)] → W p l e rm_X6_tieOfSets s m [.ref a0, .int a1, .int a2].toArray below meth c H locs 0 0 (MQ below (va_Qi post (p_Post D cy A) A) [.ref a0, .int a1, .int a2].toArray s 0 0 A) (F0 m 5 ls []) := by
    intro n5
    induction n5 with
    | zero => intro S l0 l1 l2 l3 l4 hf; exact hf.elim
    | succ n5 ih5 =>
      intro S l0 l1 l2 l3 l4 hf H locs ls hH hl
      have hJ33 : ∀ (S : PS) (l0 : Nat) (l1 : Int32) (l2 : Int32) (l3 : Int32) (l4 : Int32), f_X6_tieOfSets_J33 post (f_X6_tieOfSets_L5 post n5) S l0 l1 l2 l3 l4 → ∀ (H : Heap) (locs : List Loc) (ls : Array Slot), p_H D cy S A s H locs → lv_has ls 5 [(0, .ref l0), (1, .int l1), (2, .int l2), (3, .int l3), (4, .int l4)] → W p l e rm_X6_tieOfSets s m [.ref a0, .int a1, .int a2].toArray below meth c H locs 0 0 (MQ below (va_Qi post (p_Post D cy A) A) [.ref a0, .int a1, .int a2].toArray s 0 0 A) (F0 m 33 ls []) := by
        intro S l0 l1 l2 l3 l4 hf H locs ls hH hl
        refine lv_iinc (v := l4 + 1) (lv' := [(4, .int (l4 + 1)), (0, .ref l0), (1, .int l1), (2, .int l2), (3, .int l3)]) hx hb dX6_tieOfSets_33 hl (k := 4) rfl rfl (by decide) rfl (fun ls hl => ?_)
        refine lv_goto (tgt := 5) hx hb dX6_tieOfSets_36 (by decide) ?_
        exact ih5 S l0 l1 l2 l3 (l4 + 1) hf H locs ls hH (lv_sub hl [1, 2, 3, 4, 0] rfl)
      refine lv_iload hx hb dX6_tieOfSets_5 (lv_at hl 4 rfl) ?_
      refine lv_aload_n hx hb dX6_tieOfSets_7 rfl (lv_at hl 0 rfl) ?_
      refine q_getI (T := TX6) (N := 6) X hH hf iw_X6 rfl (by decide) tw_139 (fun _ h => h) dX6_tieOfSets_8 (fun v1 hf => ?_)
      refine lv_icmp_ge (tgt := 39) hx hb dX6_tieOfSets_11 (by decide) (fun c2 => ?_) (fun c2 => ?_)
      · have hf := (if_pos c2).mp hf
        refine lv_iload_n hx hb dX6_tieOfSets_39 rfl (lv_at hl 3 rfl) ?_
        exact q_retI X hH hr hlk hf (Nat.zero_le _) (Nat.zero_le _) dX6_tieOfSets_40
      · have hf := (if_neg c2).mp hf
        refine lv_iload_n hx hb dX6_tieOfSets_14 rfl (lv_at hl 1 rfl) ?_
        refine lv_iload hx hb dX6_tieOfSets_15 (lv_at hl 4 rfl) ?_
        refine q_backI0 X hH (q_runSN [.int l1, .int l4] [] X hH hl (c_X7_isIn l D cy G X.2.2.2.1 S l1 l4 _ _ hf) mf_X7_isIn tw_369 (List.mem_of_getElem? (i := 20) rfl) ⟨Nat.le_of_ble_eq_true rfl, Nat.le_of_ble_eq_true rfl⟩ rfl (Nat.le_of_ble_eq_true rfl) dX6_tieOfSets_17 ⟨Nat.le_of_ble_eq_true rfl, Nat.le_of_ble_eq_true rfl⟩) (fun v4 S3 hf H locs hH => ?_)
        refine lv_if_eq (tgt := 33) hx hb dX6_tieOfSets_20 (by decide) (fun c5 => ?_) (fun c5 => ?_)
        · have hf := (if_pos c5).mp hf
          exact hJ33 S3 l0 l1 l2 l3 l4 hf H locs ls hH hl
        · have hf := (if_neg c5).mp hf
          refine lv_iload_n hx hb dX6_tieOfSets_23 rfl (lv_at hl 3 rfl) ?_
          refine lv_aload_n hx hb dX6_tieOfSets_24 rfl (lv_at hl 0 rfl) ?_
          refine lv_iload hx hb dX6_tieOfSets_25 (lv_at hl 4 rfl) ?_
          refine lv_iload_n hx hb dX6_tieOfSets_27 rfl (lv_at hl 2 rfl) ?_
          obtain ⟨hb1, hb2, hf⟩ := hf
          refine q_backI0 X hH (q_runV [.int l4, .int l2] [.int l3] X hH hl (c_X6_tieToSet l D cy G X.2.2.2.1 S3 l0 l4 l2 _ _ hf) mf_X6_tieToSet mv_X6_tieToSet tw_399 ⟨Nat.le_of_ble_eq_true rfl, Nat.le_of_ble_eq_true rfl⟩ hb1 hb2 (T := TX6) (N := 6) rfl rfl (Nat.le_of_ble_eq_true rfl) dX6_tieOfSets_28 ⟨Nat.le_of_ble_eq_true rfl, Nat.le_of_ble_eq_true rfl⟩) (fun v7 S6 hf H locs hH => ?_)
          refine lv_iadd hx hb dX6_tieOfSets_31 ?_
          refine lv_istore_n (lv' := [(3, .int (l3 + v7)), (0, .ref l0), (1, .int l1), (2, .int l2), (4, .int l4)]) hx hb dX6_tieOfSets_32 rfl hl (by decide) rfl (fun ls hl => ?_)
          exact hJ33 S6 l0 l1 l2 (l3 + v7) l4 hf H locs ls hH (lv_sub hl [1, 2, 3, 0, 4] rfl)
  refine lv_iconst (v := 0) hx hb dX6_tieOfSets_0 (by decide) ?_
  refine lv_istore_n (lv' := [(3, .int 0), (0, .ref a0), (1, .int a1), (2, .int a2)]) hx hb dX6_tieOfSets_1 rfl hl (by decide) rfl (fun ls hl => ?_)
  refine lv_iconst (v := 0) hx hb dX6_tieOfSets_2 (by decide) ?_
  refine lv_istore (lv' := [(4, .int 0), (3, .int 0), (0, .ref a0), (1, .int a1), (2, .int a2)]) hx hb dX6_tieOfSets_3 hl (by decide) rfl (fun ls hl => ?_)
  exact hL5 4096 S a0 a1 a2 0 0 hf H locs ls hH (lv_sub hl [2, 3, 4, 1, 0] rfl)
-- X6_feudByBonds
def f_X6_feudByBonds_J52 (post : Int32 → PS → Prop) (g4 : PS → Nat → Int32 → Int32 → Prop) (S : PS) (l0 : Nat) (l1 : Int32) (l2 : Int32) : Prop :=
  g4 S l0 l1 (l2 + 1)
def f_X6_feudByBonds_J46 (post : Int32 → PS → Prop) (g16 : PS → Nat → Int32 → Int32 → Int32 → Prop) (S : PS) (l0 : Nat) (l1 : Int32) (l2 : Int32) (l3 : Int32) : Prop :=
  g16 S l0 l1 l2 (l3 + 1)
def f_X6_feudByBonds_L16 (post : Int32 → PS → Prop) (g4 : PS → Nat → Int32 → Int32 → Prop) : Nat → PS → Nat → Int32 → Int32 → Int32 → Prop
  | 0, _, _, _, _, _ => False
  | n + 1, S, l0, l1, l2, l3 =>
  gI S l0 10 1 fun v1 => (
  if v1 ≤ l3 then
    f_X6_feudByBonds_J52 post g4 S l0 l1 l2
  else
    isO S l0 10 (
    f_X6_sideOf S l0 l2 fun v4 S3 => (
    isO S3 l0 10 (
    f_X6_sideOf S3 l0 l3 fun v6 S5 => (
    if v4 = v6 then
      f_X6_feudByBonds_J46 post (f_X6_feudByBonds_L16 post g4 n) S5 l0 l1 l2 l3
    else
      isO S5 l0 10 (
      f_X6_tie S5 l0 l2 l3 fun v9 S8 => (
      f_X6_feudByBonds_J46 post (f_X6_feudByBonds_L16 post g4 n) S8 l0 (l1 + v9) l2 l3)))))))
def f_X6_feudByBonds_L4 (post : Int32 → PS → Prop) : Nat → PS → Nat → Int32 → Int32 → Prop
  | 0, _, _, _, _ => False
  | n + 1, S, l0, l1, l2 =>
  gI S l0 10 1 fun v1 => (
  if v1 ≤ l2 then
    post l1 S
  else
    f_X6_feudByBonds_L16 post (f_X6_feudByBonds_L4 post n) 4096 S l0 l1 l2 (l2 + 1))
def f_X6_feudByBonds (S : PS) (a0 : Nat) (post : Int32 → PS → Prop) : Prop :=
  f_X6_feudByBonds_L4 post 4096 S a0 0 0
abbrev rm_X6_feudByBonds : Room := { frames := 2, cells := 0, slots := 0, locals := 43 }
set_option maxHeartbeats 4000000 in
set_option maxRecDepth 100000 in
theorem c_X6_feudByBonds (l : Launch) (D : va_G) (cy : Nat → ClassId) (G : p_GT) (hG : p_ok G) (S : PS) (a0 : Nat) (post : Int32 → PS → Prop) (sz : Nat) (hf : f_X6_feudByBonds S a0 post) : p_Mi l D cy G S sz yX6_feudByBonds (Cond.code yX6_feudByBonds cX6_feudByBonds 4 (some .int) :: wG) rm_X6_feudByBonds [.ref a0] 0 0 post := by
  refine q_start hG (Qc := fun A => va_Qi post (p_Post D cy A) A) mf_X6_feudByBonds (Nat.le_of_ble_eq_true rfl) (own := RX6) rfl ?_
  intro p e s m below meth c A X hr hlk hnm ls hl hH
  have hx := X.1.1
  have hb := X.1.2.1
  replace hl : lv_has ls 4 [(0, .ref a0)] := hl
  obtain ⟨H, hHe⟩ : ∃ H, H = s.heap := ⟨_, rfl⟩
  obtain ⟨locs, hlo⟩ : ∃ locs : List Loc, locs = [] := ⟨_, rfl⟩
  rw [← hHe, ← hlo] at hH
  show W p l e rm_X6_feudByBonds s m [.ref a0].toArray below meth c s.heap [] 0 0 _ _
  rw [← hHe, ← hlo]
  have hL4 : ∀ (n4 : Nat) (S : PS) (l0 : Nat) (l1 : Int32) (l2 : Int32), f_X6_feudByBonds_L4 post n4 S l0 l1 l2 → ∀ (H : Heap) (locs : List Loc) (ls : Array Slot), p_H D cy S A s H locs → lv_has ls 4 [(0, .ref l0), (1, .int l1), (2, .int l2)] → W p l e rm_X6_feudByBonds s m [.ref a0].toArray below meth c H locs 0 0 (MQ below (va_Qi post (p_Post D cy A) A) [.ref a0].toArray s 0 0 A) (F0 m 4 ls []) := by
    intro n4
    induction n4 with
    | zero => intro S l0 l1 l2 hf; exact hf.elim
    | succ n4 ih4 =>
      intro S l0 l1 l2 hf H locs ls hH hl
      have hL16 : ∀ (n16 : Nat) (S : PS) (l0 : Nat) (l1 : Int32) (l2 : Int32) (l3 : Int32), f_X6_feudByBonds_L16 post (f_X6_feudByBonds_L4 post n4) n16 S l0 l1 l2 l3 → ∀ (H : Heap) (locs : List Loc) (ls : Array Slot), p_H D cy S A s H locs → lv_has ls 4 [(0, .ref l0), (1, .int l1), (2, .int l2), (3, .int l3)] → W p l e rm_X6_feudByBonds s m [.ref a0].toArray below meth c H locs 0 0 (MQ below (va_Qi post (p_Post D cy A) A) [.ref a0].toArray s 0 0 A) (F0 m 16 ls []) := by
        intro n16
        induction n16 with
        | zero => intro S l0 l1 l2 l3 hf; exact hf.elim
        | succ n16 ih16 =>
          intro S l0 l1 l2 l3 hf H locs ls hH hl
          have hJ52 : ∀ (S : PS) (l0 : Nat) (l1 : Int32) (l2 : Int32), f_X6_feudByBonds_J52 post (f_X6_feudByBonds_L4 post n4) S l0 l1 l2 → ∀ (H : Heap) (locs : List Loc) (ls : Array Slot), p_H D cy S A s H locs → lv_has ls 4 [(0, .ref l0), (1, .int l1), (2, .int l2)] → W p l e rm_X6_feudByBonds s m [.ref a0].toArray below meth c H locs 0 0 (MQ below (va_Qi post (p_Post D cy A) A) [.ref a0].toArray s 0 0 A) (F0 m 52 ls []) := by
            intro S l0 l1 l2 hf H locs ls hH hl
            refine lv_iinc (v := l2 + 1) (lv' := [(2, .int (l2 + 1)), (0, .ref l0), (1, .int l1)]) hx hb dX6_feudByBonds_52 hl (k := 2) rfl rfl (by decide) rfl (fun ls hl => ?_)
            refine lv_goto (tgt := 4) hx hb dX6_feudByBonds_55 (by decide) ?_
            exact ih4 S l0 l1 (l2 + 1) hf H locs ls hH (lv_sub hl [1, 2, 0] rfl)
          have hJ46 : ∀ (S : PS) (l0 : Nat) (l1 : Int32) (l2 : Int32) (l3 : Int32), f_X6_feudByBonds_J46 post (f_X6_feudByBonds_L16 post (f_X6_feudByBonds_L4 post n4) n16) S l0 l1 l2 l3 → ∀ (H : Heap) (locs : List Loc) (ls : Array Slot), p_H D cy S A s H locs → lv_has ls 4 [(0, .ref l0), (1, .int l1), (2, .int l2), (3, .int l3)] → W p l e rm_X6_feudByBonds s m [.ref a0].toArray below meth c H locs 0 0 (MQ below (va_Qi post (p_Post D cy A) A) [.ref a0].toArray s 0 0 A) (F0 m 46 ls []) := by
            intro S l0 l1 l2 l3 hf H locs ls hH hl
            refine lv_iinc (v := l3 + 1) (lv' := [(3, .int (l3 + 1)), (0, .ref l0), (1, .int l1), (2, .int l2)]) hx hb dX6_feudByBonds_46 hl (k := 3) rfl rfl (by decide) rfl (fun ls hl => ?_)
            refine lv_goto (tgt := 16) hx hb dX6_feudByBonds_49 (by decide) ?_
            exact ih16 S l0 l1 l2 (l3 + 1) hf H locs ls hH (lv_sub hl [1, 2, 3, 0] rfl)
          refine lv_iload_n hx hb dX6_feudByBonds_16 rfl (lv_at hl 3 rfl) ?_
          refine lv_aload_n hx hb dX6_feudByBonds_17 rfl (lv_at hl 0 rfl) ?_
          refine q_getI (T := TX6) (N := 6) X hH hf iw_X6 rfl (by decide) tw_139 (fun _ h => h) dX6_feudByBonds_18 (fun v1 hf => ?_)
          refine lv_icmp_ge (tgt := 52) hx hb dX6_feudByBonds_21 (by decide) (fun c2 => ?_) (fun c2 => ?_)
          · have hf := (if_pos c2).mp hf
            exact hJ52 S l0 l1 l2 hf H locs ls hH (lv_sub hl [0, 1, 2] rfl)
          · have hf := (if_neg c2).mp hf
            refine lv_aload_n hx hb dX6_feudByBonds_24 rfl (lv_at hl 0 rfl) ?_
            refine lv_iload_n hx hb dX6_feudByBonds_25 rfl (lv_at hl 2 rfl) ?_
            obtain ⟨hb1, hb2, hf⟩ := hf
            refine q_backI0 X hH (q_runV [.int l2] [] X hH hl (c_X6_sideOf l D cy G X.2.2.2.1 S l0 l2 _ _ hf) mf_X6_sideOf mv_X6_sideOf tw_364 ⟨Nat.le_of_ble_eq_true rfl, Nat.le_of_ble_eq_true rfl⟩ hb1 hb2 (T := TX6) (N := 6) rfl rfl (Nat.le_of_ble_eq_true rfl) dX6_feudByBonds_26 ⟨Nat.le_of_ble_eq_true rfl, Nat.le_of_ble_eq_true rfl⟩) (fun v4 S3 hf H locs hH => ?_)
            refine lv_aload_n hx hb dX6_feudByBonds_29 rfl (lv_at hl 0 rfl) ?_
            refine lv_iload_n hx hb dX6_feudByBonds_30 rfl (lv_at hl 3 rfl) ?_
            obtain ⟨hb1, hb2, hf⟩ := hf
            refine q_backI0 X hH (q_runV [.int l3] [.int v4] X hH hl (c_X6_sideOf l D cy G X.2.2.2.1 S3 l0 l3 _ _ hf) mf_X6_sideOf mv_X6_sideOf tw_364 ⟨Nat.le_of_ble_eq_true rfl, Nat.le_of_ble_eq_true rfl⟩ hb1 hb2 (T := TX6) (N := 6) rfl rfl (Nat.le_of_ble_eq_true rfl) dX6_feudByBonds_31 ⟨Nat.le_of_ble_eq_true rfl, Nat.le_of_ble_eq_true rfl⟩) (fun v6 S5 hf H locs hH => ?_)
            refine lv_icmp_eq (tgt := 46) hx hb dX6_feudByBonds_34 (by decide) (fun c7 => ?_) (fun c7 => ?_)
            · have hf := (if_pos c7).mp hf
              exact hJ46 S5 l0 l1 l2 l3 hf H locs ls hH hl
            · have hf := (if_neg c7).mp hf
              refine lv_iload_n hx hb dX6_feudByBonds_37 rfl (lv_at hl 1 rfl) ?_
              refine lv_aload_n hx hb dX6_feudByBonds_38 rfl (lv_at hl 0 rfl) ?_
              refine lv_iload_n hx hb dX6_feudByBonds_39 rfl (lv_at hl 2 rfl) ?_
              refine lv_iload_n hx hb dX6_feudByBonds_40 rfl (lv_at hl 3 rfl) ?_
              obtain ⟨hb1, hb2, hf⟩ := hf
              refine q_backI0 X hH (q_runV [.int l2, .int l3] [.int l1] X hH hl (c_X6_tie l D cy G X.2.2.2.1 S5 l0 l2 l3 _ _ hf) mf_X6_tie mv_X6_tie tw_371 ⟨Nat.le_of_ble_eq_true rfl, Nat.le_of_ble_eq_true rfl⟩ hb1 hb2 (T := TX6) (N := 6) rfl rfl (Nat.le_of_ble_eq_true rfl) dX6_feudByBonds_41 ⟨Nat.le_of_ble_eq_true rfl, Nat.le_of_ble_eq_true rfl⟩) (fun v9 S8 hf H locs hH => ?_)
              refine lv_iadd hx hb dX6_feudByBonds_44 ?_
              refine lv_istore_n (lv' := [(1, .int (l1 + v9)), (0, .ref l0), (2, .int l2), (3, .int l3)]) hx hb dX6_feudByBonds_45 rfl hl (by decide) rfl (fun ls hl => ?_)
              exact hJ46 S8 l0 (l1 + v9) l2 l3 hf H locs ls hH (lv_sub hl [1, 0, 2, 3] rfl)
      refine lv_iload_n hx hb dX6_feudByBonds_4 rfl (lv_at hl 2 rfl) ?_
      refine lv_aload_n hx hb dX6_feudByBonds_5 rfl (lv_at hl 0 rfl) ?_
      refine q_getI (T := TX6) (N := 6) X hH hf iw_X6 rfl (by decide) tw_139 (fun _ h => h) dX6_feudByBonds_6 (fun v1 hf => ?_)
      refine lv_icmp_ge (tgt := 58) hx hb dX6_feudByBonds_9 (by decide) (fun c2 => ?_) (fun c2 => ?_)
      · have hf := (if_pos c2).mp hf
        refine lv_iload_n hx hb dX6_feudByBonds_58 rfl (lv_at hl 1 rfl) ?_
        exact q_retI X hH hr hlk hf (Nat.zero_le _) (Nat.zero_le _) dX6_feudByBonds_59
      · have hf := (if_neg c2).mp hf
        refine lv_iload_n hx hb dX6_feudByBonds_12 rfl (lv_at hl 2 rfl) ?_
        refine lv_iconst (v := 1) hx hb dX6_feudByBonds_13 (by decide) ?_
        refine lv_iadd hx hb dX6_feudByBonds_14 ?_
        refine lv_istore_n (lv' := [(3, .int (l2 + 1)), (0, .ref l0), (1, .int l1), (2, .int l2)]) hx hb dX6_feudByBonds_15 rfl hl (by decide) rfl (fun ls hl => ?_)
        exact hL16 4096 S l0 l1 l2 (l2 + 1) hf H locs ls hH (lv_sub hl [1, 2, 3, 0] rfl)
  refine lv_iconst (v := 0) hx hb dX6_feudByBonds_0 (by decide) ?_
  refine lv_istore_n (lv' := [(1, .int 0), (0, .ref a0)]) hx hb dX6_feudByBonds_1 rfl hl (by decide) rfl (fun ls hl => ?_)
  refine lv_iconst (v := 0) hx hb dX6_feudByBonds_2 (by decide) ?_
  refine lv_istore_n (lv' := [(2, .int 0), (1, .int 0), (0, .ref a0)]) hx hb dX6_feudByBonds_3 rfl hl (by decide) rfl (fun ls hl => ?_)
  exact hL4 4096 S a0 0 0 hf H locs ls hH (lv_sub hl [2, 1, 0] rfl)
-- X6_feudByHalves
def f_X6_feudByHalves_J31 (post : Int32 → PS → Prop) (S : PS) (l1 : Int32) : Prop :=
  (¬ (2 : Int32) = 0) ∧ (
  post (l1 / 2) S)
def f_X6_feudByHalves_L4 (post : Int32 → PS → Prop) : Nat → PS → Nat → Int32 → Int32 → Prop
  | 0, _, _, _, _ => False
  | n + 1, S, l0, l1, l2 =>
  gI S l0 10 1 fun v1 => (
  if v1 ≤ l2 then
    f_X6_feudByHalves_J31 post S l1
  else
    isO S l0 10 (
    f_X6_otherSide S l0 l2 fun v4 S3 => (
    isO S3 l0 10 (
    f_X6_tieToSet S3 l0 l2 v4 fun v6 S5 => (
    (f_X6_feudByHalves_L4 post n) S5 l0 (l1 + v6) (l2 + 1))))))
def f_X6_feudByHalves (S : PS) (a0 : Nat) (post : Int32 → PS → Prop) : Prop :=
  f_X6_feudByHalves_L4 post 4096 S a0 0 0
abbrev rm_X6_feudByHalves : Room := { frames := 4, cells := 0, slots := 0, locals := 84 }
set_option maxHeartbeats 4000000 in
set_option maxRecDepth 100000 in
theorem c_X6_feudByHalves (l : Launch) (D : va_G) (cy : Nat → ClassId) (G : p_GT) (hG : p_ok G) (S : PS) (a0 : Nat) (post : Int32 → PS → Prop) (sz : Nat) (hf : f_X6_feudByHalves S a0 post) : p_Mi l D cy G S sz yX6_feudByHalves (Cond.code yX6_feudByHalves cX6_feudByHalves 3 (some .int) :: wG) rm_X6_feudByHalves [.ref a0] 0 0 post := by
  refine q_start hG (Qc := fun A => va_Qi post (p_Post D cy A) A) mf_X6_feudByHalves (Nat.le_of_ble_eq_true rfl) (own := RX6) rfl ?_
  intro p e s m below meth c A X hr hlk hnm ls hl hH
  have hx := X.1.1
  have hb := X.1.2.1
  replace hl : lv_has ls 3 [(0, .ref a0)] := hl
  obtain ⟨H, hHe⟩ : ∃ H, H = s.heap := ⟨_, rfl⟩
  obtain ⟨locs, hlo⟩ : ∃ locs : List Loc, locs = [] := ⟨_, rfl⟩
  rw [← hHe, ← hlo] at hH
  show W p l e rm_X6_feudByHalves s m [.ref a0].toArray below meth c s.heap [] 0 0 _ _
  rw [← hHe, ← hlo]
  have hL4 : ∀ (n4 : Nat) (S : PS) (l0 : Nat) (l1 : Int32) (l2 : Int32), f_X6_feudByHalves_L4 post n4 S l0 l1 l2 → ∀ (H : Heap) (locs : List Loc) (ls : Array Slot), p_H D cy S A s H locs → lv_has ls 3 [(0, .ref l0), (1, .int l1), (2, .int l2)] → W p l e rm_X6_feudByHalves s m [.ref a0].toArray below meth c H locs 0 0 (MQ below (va_Qi post (p_Post D cy A) A) [.ref a0].toArray s 0 0 A) (F0 m 4 ls []) := by
    intro n4
    induction n4 with
    | zero => intro S l0 l1 l2 hf; exact hf.elim
    | succ n4 ih4 =>
      intro S l0 l1 l2 hf H locs ls hH hl
      have hJ31 : ∀ (S : PS) (l1 : Int32), f_X6_feudByHalves_J31 post S l1 → ∀ (H : Heap) (locs : List Loc) (ls : Array Slot), p_H D cy S A s H locs → lv_has ls 3 [(1, .int l1)] → W p l e rm_X6_feudByHalves s m [.ref a0].toArray below meth c H locs 0 0 (MQ below (va_Qi post (p_Post D cy A) A) [.ref a0].toArray s 0 0 A) (F0 m 31 ls []) := by
        intro S l1 hf H locs ls hH hl
        refine lv_iload_n hx hb dX6_feudByHalves_31 rfl (lv_at hl 0 rfl) ?_
        refine lv_iconst (v := 2) hx hb dX6_feudByHalves_32 (by decide) ?_
        refine lv_idiv hx hb dX6_feudByHalves_33 hf.1 ?_
        have hf := hf.2
        exact q_retI X hH hr hlk hf (Nat.zero_le _) (Nat.zero_le _) dX6_feudByHalves_34
      refine lv_iload_n hx hb dX6_feudByHalves_4 rfl (lv_at hl 2 rfl) ?_
      refine lv_aload_n hx hb dX6_feudByHalves_5 rfl (lv_at hl 0 rfl) ?_
      refine q_getI (T := TX6) (N := 6) X hH hf iw_X6 rfl (by decide) tw_139 (fun _ h => h) dX6_feudByHalves_6 (fun v1 hf => ?_)
      refine lv_icmp_ge (tgt := 31) hx hb dX6_feudByHalves_9 (by decide) (fun c2 => ?_) (fun c2 => ?_)
      · have hf := (if_pos c2).mp hf
        exact hJ31 S l1 hf H locs ls hH (lv_sub hl [1] rfl)
      · have hf := (if_neg c2).mp hf
        refine lv_iload_n hx hb dX6_feudByHalves_12 rfl (lv_at hl 1 rfl) ?_
        refine lv_aload_n hx hb dX6_feudByHalves_13 rfl (lv_at hl 0 rfl) ?_
        refine lv_iload_n hx hb dX6_feudByHalves_14 rfl (lv_at hl 2 rfl) ?_
        refine lv_aload_n hx hb dX6_feudByHalves_15 rfl (lv_at hl 0 rfl) ?_
        refine lv_iload_n hx hb dX6_feudByHalves_16 rfl (lv_at hl 2 rfl) ?_
        obtain ⟨hb1, hb2, hf⟩ := hf
        refine q_backI0 X hH (q_runV [.int l2] [.int l2, .ref l0, .int l1] X hH hl (c_X6_otherSide l D cy G X.2.2.2.1 S l0 l2 _ _ hf) mf_X6_otherSide mv_X6_otherSide tw_387 ⟨Nat.le_of_ble_eq_true rfl, Nat.le_of_ble_eq_true rfl⟩ hb1 hb2 (T := TX6) (N := 6) rfl rfl (Nat.le_of_ble_eq_true rfl) dX6_feudByHalves_17 ⟨Nat.le_of_ble_eq_true rfl, Nat.le_of_ble_eq_true rfl⟩) (fun v4 S3 hf H locs hH => ?_)
        obtain ⟨hb1, hb2, hf⟩ := hf
        refine q_backI0 X hH (q_runV [.int l2, .int v4] [.int l1] X hH hl (c_X6_tieToSet l D cy G X.2.2.2.1 S3 l0 l2 v4 _ _ hf) mf_X6_tieToSet mv_X6_tieToSet tw_399 ⟨Nat.le_of_ble_eq_true rfl, Nat.le_of_ble_eq_true rfl⟩ hb1 hb2 (T := TX6) (N := 6) rfl rfl (Nat.le_of_ble_eq_true rfl) dX6_feudByHalves_20 ⟨Nat.le_of_ble_eq_true rfl, Nat.le_of_ble_eq_true rfl⟩) (fun v6 S5 hf H locs hH => ?_)
        refine lv_iadd hx hb dX6_feudByHalves_23 ?_
        refine lv_istore_n (lv' := [(1, .int (l1 + v6)), (0, .ref l0), (2, .int l2)]) hx hb dX6_feudByHalves_24 rfl hl (by decide) rfl (fun ls hl => ?_)
        refine lv_iinc (v := l2 + 1) (lv' := [(2, .int (l2 + 1)), (1, .int (l1 + v6)), (0, .ref l0)]) hx hb dX6_feudByHalves_25 hl (k := 2) rfl rfl (by decide) rfl (fun ls hl => ?_)
        refine lv_goto (tgt := 4) hx hb dX6_feudByHalves_28 (by decide) ?_
        exact ih4 S5 l0 (l1 + v6) (l2 + 1) hf H locs ls hH (lv_sub hl [2, 1, 0] rfl)
  refine lv_iconst (v := 0) hx hb dX6_feudByHalves_0 (by decide) ?_
  refine lv_istore_n (lv' := [(1, .int 0), (0, .ref a0)]) hx hb dX6_feudByHalves_1 rfl hl (by decide) rfl (fun ls hl => ?_)
  refine lv_iconst (v := 0) hx hb dX6_feudByHalves_2 (by decide) ?_
  refine lv_istore_n (lv' := [(2, .int 0), (1, .int 0), (0, .ref a0)]) hx hb dX6_feudByHalves_3 rfl hl (by decide) rfl (fun ls hl => ?_)
  exact hL4 4096 S a0 0 0 hf H locs ls hH (lv_sub hl [2, 1, 0] rfl)
-- X6_feudAfterMove
def f_X6_feudAfterMove (S : PS) (a0 : Nat) (a1 : Int32) (post : Int32 → PS → Prop) : Prop :=
  isO S a0 10 (
  f_X6_feudByBonds S a0 fun v2 S1 => (
  isO S1 a0 10 (
  f_X6_sameSide S1 a0 a1 fun v4 S3 => (
  isO S3 a0 10 (
  f_X6_tieToSet S3 a0 a1 v4 fun v6 S5 => (
  isO S5 a0 10 (
  f_X6_otherSide S5 a0 a1 fun v8 S7 => (
  isO S7 a0 10 (
  f_X6_tieToSet S7 a0 a1 v8 fun v10 S9 => (
  post ((v2 + v6) - v10) S9))))))))))
abbrev rm_X6_feudAfterMove : Room := { frames := 4, cells := 0, slots := 0, locals := 84 }
set_option maxHeartbeats 4000000 in
set_option maxRecDepth 100000 in
theorem c_X6_feudAfterMove (l : Launch) (D : va_G) (cy : Nat → ClassId) (G : p_GT) (hG : p_ok G) (S : PS) (a0 : Nat) (a1 : Int32) (post : Int32 → PS → Prop) (sz : Nat) (hf : f_X6_feudAfterMove S a0 a1 post) : p_Mi l D cy G S sz yX6_feudAfterMove (Cond.code yX6_feudAfterMove cX6_feudAfterMove 2 (some .int) :: wG) rm_X6_feudAfterMove [.ref a0, .int a1] 0 0 post := by
  refine q_start hG (Qc := fun A => va_Qi post (p_Post D cy A) A) mf_X6_feudAfterMove (Nat.le_of_ble_eq_true rfl) (own := RX6) rfl ?_
  intro p e s m below meth c A X hr hlk hnm ls hl hH
  have hx := X.1.1
  have hb := X.1.2.1
  replace hl : lv_has ls 2 [(0, .ref a0), (1, .int a1)] := hl
  obtain ⟨H, hHe⟩ : ∃ H, H = s.heap := ⟨_, rfl⟩
  obtain ⟨locs, hlo⟩ : ∃ locs : List Loc, locs = [] := ⟨_, rfl⟩
  rw [← hHe, ← hlo] at hH
  show W p l e rm_X6_feudAfterMove s m [.ref a0, .int a1].toArray below meth c s.heap [] 0 0 _ _
  rw [← hHe, ← hlo]
  refine lv_aload_n hx hb dX6_feudAfterMove_0 rfl (lv_at hl 0 rfl) ?_
  obtain ⟨hb1, hb2, hf⟩ := hf
  refine q_backI0 X hH (q_runV [] [] X hH hl (c_X6_feudByBonds l D cy G X.2.2.2.1 S a0 _ _ hf) mf_X6_feudByBonds mv_X6_feudByBonds tw_1261 ⟨Nat.le_of_ble_eq_true rfl, Nat.le_of_ble_eq_true rfl⟩ hb1 hb2 (T := TX6) (N := 6) rfl rfl (Nat.le_of_ble_eq_true rfl) dX6_feudAfterMove_1 ⟨Nat.le_of_ble_eq_true rfl, Nat.le_of_ble_eq_true rfl⟩) (fun v2 S1 hf H locs hH => ?_)
  refine lv_aload_n hx hb dX6_feudAfterMove_4 rfl (lv_at hl 0 rfl) ?_
  refine lv_iload_n hx hb dX6_feudAfterMove_5 rfl (lv_at hl 1 rfl) ?_
  refine lv_aload_n hx hb dX6_feudAfterMove_6 rfl (lv_at hl 0 rfl) ?_
  refine lv_iload_n hx hb dX6_feudAfterMove_7 rfl (lv_at hl 1 rfl) ?_
  obtain ⟨hb1, hb2, hf⟩ := hf
  refine q_backI0 X hH (q_runV [.int a1] [.int a1, .ref a0, .int v2] X hH hl (c_X6_sameSide l D cy G X.2.2.2.1 S1 a0 a1 _ _ hf) mf_X6_sameSide mv_X6_sameSide tw_395 ⟨Nat.le_of_ble_eq_true rfl, Nat.le_of_ble_eq_true rfl⟩ hb1 hb2 (T := TX6) (N := 6) rfl rfl (Nat.le_of_ble_eq_true rfl) dX6_feudAfterMove_8 ⟨Nat.le_of_ble_eq_true rfl, Nat.le_of_ble_eq_true rfl⟩) (fun v4 S3 hf H locs hH => ?_)
  obtain ⟨hb1, hb2, hf⟩ := hf
  refine q_backI0 X hH (q_runV [.int a1, .int v4] [.int v2] X hH hl (c_X6_tieToSet l D cy G X.2.2.2.1 S3 a0 a1 v4 _ _ hf) mf_X6_tieToSet mv_X6_tieToSet tw_399 ⟨Nat.le_of_ble_eq_true rfl, Nat.le_of_ble_eq_true rfl⟩ hb1 hb2 (T := TX6) (N := 6) rfl rfl (Nat.le_of_ble_eq_true rfl) dX6_feudAfterMove_11 ⟨Nat.le_of_ble_eq_true rfl, Nat.le_of_ble_eq_true rfl⟩) (fun v6 S5 hf H locs hH => ?_)
  refine lv_iadd hx hb dX6_feudAfterMove_14 ?_
  refine lv_aload_n hx hb dX6_feudAfterMove_15 rfl (lv_at hl 0 rfl) ?_
  refine lv_iload_n hx hb dX6_feudAfterMove_16 rfl (lv_at hl 1 rfl) ?_
  refine lv_aload_n hx hb dX6_feudAfterMove_17 rfl (lv_at hl 0 rfl) ?_
  refine lv_iload_n hx hb dX6_feudAfterMove_18 rfl (lv_at hl 1 rfl) ?_
  obtain ⟨hb1, hb2, hf⟩ := hf
  refine q_backI0 X hH (q_runV [.int a1] [.int a1, .ref a0, .int (v2 + v6)] X hH hl (c_X6_otherSide l D cy G X.2.2.2.1 S5 a0 a1 _ _ hf) mf_X6_otherSide mv_X6_otherSide tw_387 ⟨Nat.le_of_ble_eq_true rfl, Nat.le_of_ble_eq_true rfl⟩ hb1 hb2 (T := TX6) (N := 6) rfl rfl (Nat.le_of_ble_eq_true rfl) dX6_feudAfterMove_19 ⟨Nat.le_of_ble_eq_true rfl, Nat.le_of_ble_eq_true rfl⟩) (fun v8 S7 hf H locs hH => ?_)
  obtain ⟨hb1, hb2, hf⟩ := hf
  refine q_backI0 X hH (q_runV [.int a1, .int v8] [.int (v2 + v6)] X hH hl (c_X6_tieToSet l D cy G X.2.2.2.1 S7 a0 a1 v8 _ _ hf) mf_X6_tieToSet mv_X6_tieToSet tw_399 ⟨Nat.le_of_ble_eq_true rfl, Nat.le_of_ble_eq_true rfl⟩ hb1 hb2 (T := TX6) (N := 6) rfl rfl (Nat.le_of_ble_eq_true rfl) dX6_feudAfterMove_22 ⟨Nat.le_of_ble_eq_true rfl, Nat.le_of_ble_eq_true rfl⟩) (fun v10 S9 hf H locs hH => ?_)
  refine lv_isub hx hb dX6_feudAfterMove_25 ?_
  exact q_retI X hH hr hlk hf (Nat.zero_le _) (Nat.zero_le _) dX6_feudAfterMove_26
-- X6_weightSum
def f_X6_weightSum_J30 (post : Int32 → PS → Prop) (S : PS) (l1 : Int32) : Prop :=
  (¬ (2 : Int32) = 0) ∧ (
  post (l1 / 2) S)
def f_X6_weightSum_L4 (post : Int32 → PS → Prop) : Nat → PS → Nat → Int32 → Int32 → Prop
  | 0, _, _, _, _ => False
  | n + 1, S, l0, l1, l2 =>
  gI S l0 10 1 fun v1 => (
  if v1 ≤ l2 then
    f_X6_weightSum_J30 post S l1
  else
    isO S l0 10 (
    f_X6_everyone S l0 fun v4 S3 => (
    isO S3 l0 10 (
    f_X6_tieToSet S3 l0 l2 v4 fun v6 S5 => (
    (f_X6_weightSum_L4 post n) S5 l0 (l1 + v6) (l2 + 1))))))
def f_X6_weightSum (S : PS) (a0 : Nat) (post : Int32 → PS → Prop) : Prop :=
  f_X6_weightSum_L4 post 4096 S a0 0 0
abbrev rm_X6_weightSum : Room := { frames := 3, cells := 0, slots := 0, locals := 67 }
set_option maxHeartbeats 4000000 in
set_option maxRecDepth 100000 in
theorem c_X6_weightSum (l : Launch) (D : va_G) (cy : Nat → ClassId) (G : p_GT) (hG : p_ok G) (S : PS) (a0 : Nat) (post : Int32 → PS → Prop) (sz : Nat) (hf : f_X6_weightSum S a0 post) : p_Mi l D cy G S sz yX6_weightSum (Cond.code yX6_weightSum cX6_weightSum 3 (some .int) :: wG) rm_X6_weightSum [.ref a0] 0 0 post := by
  refine q_start hG (Qc := fun A => va_Qi post (p_Post D cy A) A) mf_X6_weightSum (Nat.le_of_ble_eq_true rfl) (own := RX6) rfl ?_
  intro p e s m below meth c A X hr hlk hnm ls hl hH
  have hx := X.1.1
  have hb := X.1.2.1
  replace hl : lv_has ls 3 [(0, .ref a0)] := hl
  obtain ⟨H, hHe⟩ : ∃ H, H = s.heap := ⟨_, rfl⟩
  obtain ⟨locs, hlo⟩ : ∃ locs : List Loc, locs = [] := ⟨_, rfl⟩
  rw [← hHe, ← hlo] at hH
  show W p l e rm_X6_weightSum s m [.ref a0].toArray below meth c s.heap [] 0 0 _ _
  rw [← hHe, ← hlo]
  have hL4 : ∀ (n4 : Nat) (S : PS) (l0 : Nat) (l1 : Int32) (l2 : Int32), f_X6_weightSum_L4 post n4 S l0 l1 l2 → ∀ (H : Heap) (locs : List Loc) (ls : Array Slot), p_H D cy S A s H locs → lv_has ls 3 [(0, .ref l0), (1, .int l1), (2, .int l2)] → W p l e rm_X6_weightSum s m [.ref a0].toArray below meth c H locs 0 0 (MQ below (va_Qi post (p_Post D cy A) A) [.ref a0].toArray s 0 0 A) (F0 m 4 ls []) := by
    intro n4
    induction n4 with
    | zero => intro S l0 l1 l2 hf; exact hf.elim
    | succ n4 ih4 =>
      intro S l0 l1 l2 hf H locs ls hH hl
      have hJ30 : ∀ (S : PS) (l1 : Int32), f_X6_weightSum_J30 post S l1 → ∀ (H : Heap) (locs : List Loc) (ls : Array Slot), p_H D cy S A s H locs → lv_has ls 3 [(1, .int l1)] → W p l e rm_X6_weightSum s m [.ref a0].toArray below meth c H locs 0 0 (MQ below (va_Qi post (p_Post D cy A) A) [.ref a0].toArray s 0 0 A) (F0 m 30 ls []) := by
        intro S l1 hf H locs ls hH hl
        refine lv_iload_n hx hb dX6_weightSum_30 rfl (lv_at hl 0 rfl) ?_
        refine lv_iconst (v := 2) hx hb dX6_weightSum_31 (by decide) ?_
        refine lv_idiv hx hb dX6_weightSum_32 hf.1 ?_
        have hf := hf.2
        exact q_retI X hH hr hlk hf (Nat.zero_le _) (Nat.zero_le _) dX6_weightSum_33
      refine lv_iload_n hx hb dX6_weightSum_4 rfl (lv_at hl 2 rfl) ?_
      refine lv_aload_n hx hb dX6_weightSum_5 rfl (lv_at hl 0 rfl) ?_
      refine q_getI (T := TX6) (N := 6) X hH hf iw_X6 rfl (by decide) tw_139 (fun _ h => h) dX6_weightSum_6 (fun v1 hf => ?_)
      refine lv_icmp_ge (tgt := 30) hx hb dX6_weightSum_9 (by decide) (fun c2 => ?_) (fun c2 => ?_)
      · have hf := (if_pos c2).mp hf
        exact hJ30 S l1 hf H locs ls hH (lv_sub hl [1] rfl)
      · have hf := (if_neg c2).mp hf
        refine lv_iload_n hx hb dX6_weightSum_12 rfl (lv_at hl 1 rfl) ?_
        refine lv_aload_n hx hb dX6_weightSum_13 rfl (lv_at hl 0 rfl) ?_
        refine lv_iload_n hx hb dX6_weightSum_14 rfl (lv_at hl 2 rfl) ?_
        refine lv_aload_n hx hb dX6_weightSum_15 rfl (lv_at hl 0 rfl) ?_
        obtain ⟨hb1, hb2, hf⟩ := hf
        refine q_backI0 X hH (q_runV [] [.int l2, .ref l0, .int l1] X hH hl (c_X6_everyone l D cy G X.2.2.2.1 S l0 _ _ hf) mf_X6_everyone mv_X6_everyone tw_391 ⟨Nat.le_of_ble_eq_true rfl, Nat.le_of_ble_eq_true rfl⟩ hb1 hb2 (T := TX6) (N := 6) rfl rfl (Nat.le_of_ble_eq_true rfl) dX6_weightSum_16 ⟨Nat.le_of_ble_eq_true rfl, Nat.le_of_ble_eq_true rfl⟩) (fun v4 S3 hf H locs hH => ?_)
        obtain ⟨hb1, hb2, hf⟩ := hf
        refine q_backI0 X hH (q_runV [.int l2, .int v4] [.int l1] X hH hl (c_X6_tieToSet l D cy G X.2.2.2.1 S3 l0 l2 v4 _ _ hf) mf_X6_tieToSet mv_X6_tieToSet tw_399 ⟨Nat.le_of_ble_eq_true rfl, Nat.le_of_ble_eq_true rfl⟩ hb1 hb2 (T := TX6) (N := 6) rfl rfl (Nat.le_of_ble_eq_true rfl) dX6_weightSum_19 ⟨Nat.le_of_ble_eq_true rfl, Nat.le_of_ble_eq_true rfl⟩) (fun v6 S5 hf H locs hH => ?_)
        refine lv_iadd hx hb dX6_weightSum_22 ?_
        refine lv_istore_n (lv' := [(1, .int (l1 + v6)), (0, .ref l0), (2, .int l2)]) hx hb dX6_weightSum_23 rfl hl (by decide) rfl (fun ls hl => ?_)
        refine lv_iinc (v := l2 + 1) (lv' := [(2, .int (l2 + 1)), (1, .int (l1 + v6)), (0, .ref l0)]) hx hb dX6_weightSum_24 hl (k := 2) rfl rfl (by decide) rfl (fun ls hl => ?_)
        refine lv_goto (tgt := 4) hx hb dX6_weightSum_27 (by decide) ?_
        exact ih4 S5 l0 (l1 + v6) (l2 + 1) hf H locs ls hH (lv_sub hl [2, 1, 0] rfl)
  refine lv_iconst (v := 0) hx hb dX6_weightSum_0 (by decide) ?_
  refine lv_istore_n (lv' := [(1, .int 0), (0, .ref a0)]) hx hb dX6_weightSum_1 rfl hl (by decide) rfl (fun ls hl => ?_)
  refine lv_iconst (v := 0) hx hb dX6_weightSum_2 (by decide) ?_
  refine lv_istore_n (lv' := [(2, .int 0), (1, .int 0), (0, .ref a0)]) hx hb dX6_weightSum_3 rfl hl (by decide) rfl (fun ls hl => ?_)
  exact hL4 4096 S a0 0 0 hf H locs ls hH (lv_sub hl [2, 1, 0] rfl)
-- X6_bondsAcross
def f_X6_bondsAcross_J55 (post : Int32 → PS → Prop) (g4 : PS → Nat → Int32 → Int32 → Prop) (S : PS) (l0 : Nat) (l1 : Int32) (l2 : Int32) : Prop :=
  g4 S l0 l1 (l2 + 1)
def f_X6_bondsAcross_J49 (post : Int32 → PS → Prop) (g16 : PS → Nat → Int32 → Int32 → Int32 → Prop) (S : PS) (l0 : Nat) (l1 : Int32) (l2 : Int32) (l3 : Int32) : Prop :=
  g16 S l0 l1 l2 (l3 + 1)
def f_X6_bondsAcross_L16 (post : Int32 → PS → Prop) (g4 : PS → Nat → Int32 → Int32 → Prop) : Nat → PS → Nat → Int32 → Int32 → Int32 → Prop
  | 0, _, _, _, _, _ => False
  | n + 1, S, l0, l1, l2, l3 =>
  gI S l0 10 1 fun v1 => (
  if v1 ≤ l3 then
    f_X6_bondsAcross_J55 post g4 S l0 l1 l2
  else
    isO S l0 10 (
    f_X6_sideOf S l0 l2 fun v4 S3 => (
    isO S3 l0 10 (
    f_X6_sideOf S3 l0 l3 fun v6 S5 => (
    if v4 = v6 then
      f_X6_bondsAcross_J49 post (f_X6_bondsAcross_L16 post g4 n) S5 l0 l1 l2 l3
    else
      isO S5 l0 10 (
      f_X6_tie S5 l0 l2 l3 fun v9 S8 => (
      if v9 ≤ 0 then
        f_X6_bondsAcross_J49 post (f_X6_bondsAcross_L16 post g4 n) S8 l0 l1 l2 l3
      else
        f_X6_bondsAcross_J49 post (f_X6_bondsAcross_L16 post g4 n) S8 l0 (l1 + 1) l2 l3)))))))
def f_X6_bondsAcross_L4 (post : Int32 → PS → Prop) : Nat → PS → Nat → Int32 → Int32 → Prop
  | 0, _, _, _, _ => False
  | n + 1, S, l0, l1, l2 =>
  gI S l0 10 1 fun v1 => (
  if v1 ≤ l2 then
    post l1 S
  else
    f_X6_bondsAcross_L16 post (f_X6_bondsAcross_L4 post n) 4096 S l0 l1 l2 (l2 + 1))
def f_X6_bondsAcross (S : PS) (a0 : Nat) (post : Int32 → PS → Prop) : Prop :=
  f_X6_bondsAcross_L4 post 4096 S a0 0 0
abbrev rm_X6_bondsAcross : Room := { frames := 2, cells := 0, slots := 0, locals := 43 }
set_option maxHeartbeats 4000000 in
set_option maxRecDepth 100000 in
theorem c_X6_bondsAcross (l : Launch) (D : va_G) (cy : Nat → ClassId) (G : p_GT) (hG : p_ok G) (S : PS) (a0 : Nat) (post : Int32 → PS → Prop) (sz : Nat) (hf : f_X6_bondsAcross S a0 post) : p_Mi l D cy G S sz yX6_bondsAcross (Cond.code yX6_bondsAcross cX6_bondsAcross 4 (some .int) :: wG) rm_X6_bondsAcross [.ref a0] 0 0 post := by
  refine q_start hG (Qc := fun A => va_Qi post (p_Post D cy A) A) mf_X6_bondsAcross (Nat.le_of_ble_eq_true rfl) (own := RX6) rfl ?_
  intro p e s m below meth c A X hr hlk hnm ls hl hH
  have hx := X.1.1
  have hb := X.1.2.1
  replace hl : lv_has ls 4 [(0, .ref a0)] := hl
  obtain ⟨H, hHe⟩ : ∃ H, H = s.heap := ⟨_, rfl⟩
  obtain ⟨locs, hlo⟩ : ∃ locs : List Loc, locs = [] := ⟨_, rfl⟩
  rw [← hHe, ← hlo] at hH
  show W p l e rm_X6_bondsAcross s m [.ref a0].toArray below meth c s.heap [] 0 0 _ _
  rw [← hHe, ← hlo]
  have hL4 : ∀ (n4 : Nat) (S : PS) (l0 : Nat) (l1 : Int32) (l2 : Int32), f_X6_bondsAcross_L4 post n4 S l0 l1 l2 → ∀ (H : Heap) (locs : List Loc) (ls : Array Slot), p_H D cy S A s H locs → lv_has ls 4 [(0, .ref l0), (1, .int l1), (2, .int l2)] → W p l e rm_X6_bondsAcross s m [.ref a0].toArray below meth c H locs 0 0 (MQ below (va_Qi post (p_Post D cy A) A) [.ref a0].toArray s 0 0 A) (F0 m 4 ls []) := by
    intro n4
    induction n4 with
    | zero => intro S l0 l1 l2 hf; exact hf.elim
    | succ n4 ih4 =>
      intro S l0 l1 l2 hf H locs ls hH hl
      have hL16 : ∀ (n16 : Nat) (S : PS) (l0 : Nat) (l1 : Int32) (l2 : Int32) (l3 : Int32), f_X6_bondsAcross_L16 post (f_X6_bondsAcross_L4 post n4) n16 S l0 l1 l2 l3 → ∀ (H : Heap) (locs : List Loc) (ls : Array Slot), p_H D cy S A s H locs → lv_has ls 4 [(0, .ref l0), (1, .int l1), (2, .int l2), (3, .int l3)] → W p l e rm_X6_bondsAcross s m [.ref a0].toArray below meth c H locs 0 0 (MQ below (va_Qi post (p_Post D cy A) A) [.ref a0].toArray s 0 0 A) (F0 m 16 ls []) := by
        intro n16
        induction n16 with
        | zero => intro S l0 l1 l2 l3 hf; exact hf.elim
        | succ n16 ih16 =>
          intro S l0 l1 l2 l3 hf H locs ls hH hl
          have hJ55 : ∀ (S : PS) (l0 : Nat) (l1 : Int32) (l2 : Int32), f_X6_bondsAcross_J55 post (f_X6_bondsAcross_L4 post n4) S l0 l1 l2 → ∀ (H : Heap) (locs : List Loc) (ls : Array Slot), p_H D cy S A s H locs → lv_has ls 4 [(0, .ref l0), (1, .int l1), (2, .int l2)] → W p l e rm_X6_bondsAcross s m [.ref a0].toArray below meth c H locs 0 0 (MQ below (va_Qi post (p_Post D cy A) A) [.ref a0].toArray s 0 0 A) (F0 m 55 ls []) := by
            intro S l0 l1 l2 hf H locs ls hH hl
            refine lv_iinc (v := l2 + 1) (lv' := [(2, .int (l2 + 1)), (0, .ref l0), (1, .int l1)]) hx hb dX6_bondsAcross_55 hl (k := 2) rfl rfl (by decide) rfl (fun ls hl => ?_)
            refine lv_goto (tgt := 4) hx hb dX6_bondsAcross_58 (by decide) ?_
            exact ih4 S l0 l1 (l2 + 1) hf H locs ls hH (lv_sub hl [1, 2, 0] rfl)
          have hJ49 : ∀ (S : PS) (l0 : Nat) (l1 : Int32) (l2 : Int32) (l3 : Int32), f_X6_bondsAcross_J49 post (f_X6_bondsAcross_L16 post (f_X6_bondsAcross_L4 post n4) n16) S l0 l1 l2 l3 → ∀ (H : Heap) (locs : List Loc) (ls : Array Slot), p_H D cy S A s H locs → lv_has ls 4 [(0, .ref l0), (1, .int l1), (2, .int l2), (3, .int l3)] → W p l e rm_X6_bondsAcross s m [.ref a0].toArray below meth c H locs 0 0 (MQ below (va_Qi post (p_Post D cy A) A) [.ref a0].toArray s 0 0 A) (F0 m 49 ls []) := by
            intro S l0 l1 l2 l3 hf H locs ls hH hl
            refine lv_iinc (v := l3 + 1) (lv' := [(3, .int (l3 + 1)), (0, .ref l0), (1, .int l1), (2, .int l2)]) hx hb dX6_bondsAcross_49 hl (k := 3) rfl rfl (by decide) rfl (fun ls hl => ?_)
            refine lv_goto (tgt := 16) hx hb dX6_bondsAcross_52 (by decide) ?_
            exact ih16 S l0 l1 l2 (l3 + 1) hf H locs ls hH (lv_sub hl [1, 2, 3, 0] rfl)
          refine lv_iload_n hx hb dX6_bondsAcross_16 rfl (lv_at hl 3 rfl) ?_
          refine lv_aload_n hx hb dX6_bondsAcross_17 rfl (lv_at hl 0 rfl) ?_
          refine q_getI (T := TX6) (N := 6) X hH hf iw_X6 rfl (by decide) tw_139 (fun _ h => h) dX6_bondsAcross_18 (fun v1 hf => ?_)
          refine lv_icmp_ge (tgt := 55) hx hb dX6_bondsAcross_21 (by decide) (fun c2 => ?_) (fun c2 => ?_)
          · have hf := (if_pos c2).mp hf
            exact hJ55 S l0 l1 l2 hf H locs ls hH (lv_sub hl [0, 1, 2] rfl)
          · have hf := (if_neg c2).mp hf
            refine lv_aload_n hx hb dX6_bondsAcross_24 rfl (lv_at hl 0 rfl) ?_
            refine lv_iload_n hx hb dX6_bondsAcross_25 rfl (lv_at hl 2 rfl) ?_
            obtain ⟨hb1, hb2, hf⟩ := hf
            refine q_backI0 X hH (q_runV [.int l2] [] X hH hl (c_X6_sideOf l D cy G X.2.2.2.1 S l0 l2 _ _ hf) mf_X6_sideOf mv_X6_sideOf tw_364 ⟨Nat.le_of_ble_eq_true rfl, Nat.le_of_ble_eq_true rfl⟩ hb1 hb2 (T := TX6) (N := 6) rfl rfl (Nat.le_of_ble_eq_true rfl) dX6_bondsAcross_26 ⟨Nat.le_of_ble_eq_true rfl, Nat.le_of_ble_eq_true rfl⟩) (fun v4 S3 hf H locs hH => ?_)
            refine lv_aload_n hx hb dX6_bondsAcross_29 rfl (lv_at hl 0 rfl) ?_
            refine lv_iload_n hx hb dX6_bondsAcross_30 rfl (lv_at hl 3 rfl) ?_
            obtain ⟨hb1, hb2, hf⟩ := hf
            refine q_backI0 X hH (q_runV [.int l3] [.int v4] X hH hl (c_X6_sideOf l D cy G X.2.2.2.1 S3 l0 l3 _ _ hf) mf_X6_sideOf mv_X6_sideOf tw_364 ⟨Nat.le_of_ble_eq_true rfl, Nat.le_of_ble_eq_true rfl⟩ hb1 hb2 (T := TX6) (N := 6) rfl rfl (Nat.le_of_ble_eq_true rfl) dX6_bondsAcross_31 ⟨Nat.le_of_ble_eq_true rfl, Nat.le_of_ble_eq_true rfl⟩) (fun v6 S5 hf H locs hH => ?_)
            refine lv_icmp_eq (tgt := 49) hx hb dX6_bondsAcross_34 (by decide) (fun c7 => ?_) (fun c7 => ?_)
            · have hf := (if_pos c7).mp hf
              exact hJ49 S5 l0 l1 l2 l3 hf H locs ls hH hl
            · have hf := (if_neg c7).mp hf
              refine lv_aload_n hx hb dX6_bondsAcross_37 rfl (lv_at hl 0 rfl) ?_
              refine lv_iload_n hx hb dX6_bondsAcross_38 rfl (lv_at hl 2 rfl) ?_
              refine lv_iload_n hx hb dX6_bondsAcross_39 rfl (lv_at hl 3 rfl) ?_
              obtain ⟨hb1, hb2, hf⟩ := hf
              refine q_backI0 X hH (q_runV [.int l2, .int l3] [] X hH hl (c_X6_tie l D cy G X.2.2.2.1 S5 l0 l2 l3 _ _ hf) mf_X6_tie mv_X6_tie tw_371 ⟨Nat.le_of_ble_eq_true rfl, Nat.le_of_ble_eq_true rfl⟩ hb1 hb2 (T := TX6) (N := 6) rfl rfl (Nat.le_of_ble_eq_true rfl) dX6_bondsAcross_40 ⟨Nat.le_of_ble_eq_true rfl, Nat.le_of_ble_eq_true rfl⟩) (fun v9 S8 hf H locs hH => ?_)
              refine lv_if_le (tgt := 49) hx hb dX6_bondsAcross_43 (by decide) (fun c10 => ?_) (fun c10 => ?_)
              · have hf := (if_pos c10).mp hf
                exact hJ49 S8 l0 l1 l2 l3 hf H locs ls hH hl
              · have hf := (if_neg c10).mp hf
                refine lv_iinc (v := l1 + 1) (lv' := [(1, .int (l1 + 1)), (0, .ref l0), (2, .int l2), (3, .int l3)]) hx hb dX6_bondsAcross_46 hl (k := 1) rfl rfl (by decide) rfl (fun ls hl => ?_)
                exact hJ49 S8 l0 (l1 + 1) l2 l3 hf H locs ls hH (lv_sub hl [1, 0, 2, 3] rfl)
      refine lv_iload_n hx hb dX6_bondsAcross_4 rfl (lv_at hl 2 rfl) ?_
      refine lv_aload_n hx hb dX6_bondsAcross_5 rfl (lv_at hl 0 rfl) ?_
      refine q_getI (T := TX6) (N := 6) X hH hf iw_X6 rfl (by decide) tw_139 (fun _ h => h) dX6_bondsAcross_6 (fun v1 hf => ?_)
      refine lv_icmp_ge (tgt := 61) hx hb dX6_bondsAcross_9 (by decide) (fun c2 => ?_) (fun c2 => ?_)
      · have hf := (if_pos c2).mp hf
        refine lv_iload_n hx hb dX6_bondsAcross_61 rfl (lv_at hl 1 rfl) ?_
        exact q_retI X hH hr hlk hf (Nat.zero_le _) (Nat.zero_le _) dX6_bondsAcross_62
      · have hf := (if_neg c2).mp hf
        refine lv_iload_n hx hb dX6_bondsAcross_12 rfl (lv_at hl 2 rfl) ?_
        refine lv_iconst (v := 1) hx hb dX6_bondsAcross_13 (by decide) ?_
        refine lv_iadd hx hb dX6_bondsAcross_14 ?_
        refine lv_istore_n (lv' := [(3, .int (l2 + 1)), (0, .ref l0), (1, .int l1), (2, .int l2)]) hx hb dX6_bondsAcross_15 rfl hl (by decide) rfl (fun ls hl => ?_)
        exact hL16 4096 S l0 l1 l2 (l2 + 1) hf H locs ls hH (lv_sub hl [1, 2, 3, 0] rfl)
  refine lv_iconst (v := 0) hx hb dX6_bondsAcross_0 (by decide) ?_
  refine lv_istore_n (lv' := [(1, .int 0), (0, .ref a0)]) hx hb dX6_bondsAcross_1 rfl hl (by decide) rfl (fun ls hl => ?_)
  refine lv_iconst (v := 0) hx hb dX6_bondsAcross_2 (by decide) ?_
  refine lv_istore_n (lv' := [(2, .int 0), (1, .int 0), (0, .ref a0)]) hx hb dX6_bondsAcross_3 rfl hl (by decide) rfl (fun ls hl => ?_)
  exact hL4 4096 S a0 0 0 hf H locs ls hH (lv_sub hl [2, 1, 0] rfl)
-- X6_reachOf
def f_X6_reachOf_J49 (post : Int32 → PS → Prop) (g6 : PS → Nat → Int32 → Int32 → Prop) (S : PS) (l0 : Nat) (l2 : Int32) (l3 : Int32) : Prop :=
  g6 S l0 l2 (l3 + 1)
def f_X6_reachOf_J43 (post : Int32 → PS → Prop) (g17 : PS → Nat → Int32 → Int32 → Int32 → Prop) (S : PS) (l0 : Nat) (l2 : Int32) (l3 : Int32) (l4 : Int32) : Prop :=
  g17 S l0 l2 l3 (l4 + 1)
def f_X6_reachOf_L17 (post : Int32 → PS → Prop) (g6 : PS → Nat → Int32 → Int32 → Prop) : Nat → PS → Nat → Int32 → Int32 → Int32 → Prop
  | 0, _, _, _, _, _ => False
  | n + 1, S, l0, l2, l3, l4 =>
  gI S l0 10 1 fun v1 => (
  if v1 ≤ l4 then
    f_X6_reachOf_J49 post g6 S l0 l2 l3
  else
    isO S l0 10 (
    f_X6_tieToSet S l0 l4 l2 fun v4 S3 => (
    if v4 ≤ 0 then
      f_X6_reachOf_J43 post (f_X6_reachOf_L17 post g6 n) S3 l0 l2 l3 l4
    else
      f_X6_reachOf_J43 post (f_X6_reachOf_L17 post g6 n) S3 l0 (l2 ||| ((1 : Int32) <<< (l4 &&& 31))) l3 l4)))
def f_X6_reachOf_L6 (post : Int32 → PS → Prop) : Nat → PS → Nat → Int32 → Int32 → Prop
  | 0, _, _, _, _ => False
  | n + 1, S, l0, l2, l3 =>
  gI S l0 10 1 fun v1 => (
  if v1 ≤ l3 then
    post l2 S
  else
    f_X6_reachOf_L17 post (f_X6_reachOf_L6 post n) 4096 S l0 l2 l3 0)
def f_X6_reachOf (S : PS) (a0 : Nat) (a1 : Int32) (post : Int32 → PS → Prop) : Prop :=
  f_X6_reachOf_L6 post 4096 S a0 ((1 : Int32) <<< (a1 &&& 31)) 0
abbrev rm_X6_reachOf : Room := { frames := 3, cells := 0, slots := 0, locals := 67 }
set_option maxHeartbeats 4000000 in
set_option maxRecDepth 100000 in
theorem c_X6_reachOf (l : Launch) (D : va_G) (cy : Nat → ClassId) (G : p_GT) (hG : p_ok G) (S : PS) (a0 : Nat) (a1 : Int32) (post : Int32 → PS → Prop) (sz : Nat) (hf : f_X6_reachOf S a0 a1 post) : p_Mi l D cy G S sz yX6_reachOf (Cond.code yX6_reachOf cX6_reachOf 5 (some .int) :: wG) rm_X6_reachOf [.ref a0, .int a1] 0 0 post := by
  refine q_start hG (Qc := fun A => va_Qi post (p_Post D cy A) A) mf_X6_reachOf (Nat.le_of_ble_eq_true rfl) (own := RX6) rfl ?_
  intro p e s m below meth c A X hr hlk hnm ls hl hH
  have hx := X.1.1
  have hb := X.1.2.1
  replace hl : lv_has ls 5 [(0, .ref a0), (1, .int a1)] := hl
  obtain ⟨H, hHe⟩ : ∃ H, H = s.heap := ⟨_, rfl⟩
  obtain ⟨locs, hlo⟩ : ∃ locs : List Loc, locs = [] := ⟨_, rfl⟩
  rw [← hHe, ← hlo] at hH
  show W p l e rm_X6_reachOf s m [.ref a0, .int a1].toArray below meth c s.heap [] 0 0 _ _
  rw [← hHe, ← hlo]
  have hL6 : ∀ (n6 : Nat) (S : PS) (l0 : Nat) (l2 : Int32) (l3 : Int32), f_X6_reachOf_L6 post n6 S l0 l2 l3 → ∀ (H : Heap) (locs : List Loc) (ls : Array Slot), p_H D cy S A s H locs → lv_has ls 5 [(0, .ref l0), (2, .int l2), (3, .int l3)] → W p l e rm_X6_reachOf s m [.ref a0, .int a1].toArray below meth c H locs 0 0 (MQ below (va_Qi post (p_Post D cy A) A) [.ref a0, .int a1].toArray s 0 0 A) (F0 m 6 ls []) := by
    intro n6
    induction n6 with
    | zero => intro S l0 l2 l3 hf; exact hf.elim
    | succ n6 ih6 =>
      intro S l0 l2 l3 hf H locs ls hH hl
      have hL17 : ∀ (n17 : Nat) (S : PS) (l0 : Nat) (l2 : Int32) (l3 : Int32) (l4 : Int32), f_X6_reachOf_L17 post (f_X6_reachOf_L6 post n6) n17 S l0 l2 l3 l4 → ∀ (H : Heap) (locs : List Loc) (ls : Array Slot), p_H D cy S A s H locs → lv_has ls 5 [(0, .ref l0), (2, .int l2), (3, .int l3), (4, .int l4)] → W p l e rm_X6_reachOf s m [.ref a0, .int a1].toArray below meth c H locs 0 0 (MQ below (va_Qi post (p_Post D cy A) A) [.ref a0, .int a1].toArray s 0 0 A) (F0 m 17 ls []) := by
        intro n17
        induction n17 with
        | zero => intro S l0 l2 l3 l4 hf; exact hf.elim
        | succ n17 ih17 =>
          intro S l0 l2 l3 l4 hf H locs ls hH hl
          have hJ49 : ∀ (S : PS) (l0 : Nat) (l2 : Int32) (l3 : Int32), f_X6_reachOf_J49 post (f_X6_reachOf_L6 post n6) S l0 l2 l3 → ∀ (H : Heap) (locs : List Loc) (ls : Array Slot), p_H D cy S A s H locs → lv_has ls 5 [(0, .ref l0), (2, .int l2), (3, .int l3)] → W p l e rm_X6_reachOf s m [.ref a0, .int a1].toArray below meth c H locs 0 0 (MQ below (va_Qi post (p_Post D cy A) A) [.ref a0, .int a1].toArray s 0 0 A) (F0 m 49 ls []) := by
            intro S l0 l2 l3 hf H locs ls hH hl
            refine lv_iinc (v := l3 + 1) (lv' := [(3, .int (l3 + 1)), (0, .ref l0), (2, .int l2)]) hx hb dX6_reachOf_49 hl (k := 2) rfl rfl (by decide) rfl (fun ls hl => ?_)
            refine lv_goto (tgt := 6) hx hb dX6_reachOf_52 (by decide) ?_
            exact ih6 S l0 l2 (l3 + 1) hf H locs ls hH (lv_sub hl [1, 2, 0] rfl)
          have hJ43 : ∀ (S : PS) (l0 : Nat) (l2 : Int32) (l3 : Int32) (l4 : Int32), f_X6_reachOf_J43 post (f_X6_reachOf_L17 post (f_X6_reachOf_L6 post n6) n17) S l0 l2 l3 l4 → ∀ (H : Heap) (locs : List Loc) (ls : Array Slot), p_H D cy S A s H locs → lv_has ls 5 [(0, .ref l0), (2, .int l2), (3, .int l3), (4, .int l4)] → W p l e rm_X6_reachOf s m [.ref a0, .int a1].toArray below meth c H locs 0 0 (MQ below (va_Qi post (p_Post D cy A) A) [.ref a0, .int a1].toArray s 0 0 A) (F0 m 43 ls []) := by
            intro S l0 l2 l3 l4 hf H locs ls hH hl
            refine lv_iinc (v := l4 + 1) (lv' := [(4, .int (l4 + 1)), (0, .ref l0), (2, .int l2), (3, .int l3)]) hx hb dX6_reachOf_43 hl (k := 3) rfl rfl (by decide) rfl (fun ls hl => ?_)
            refine lv_goto (tgt := 17) hx hb dX6_reachOf_46 (by decide) ?_
            exact ih17 S l0 l2 l3 (l4 + 1) hf H locs ls hH (lv_sub hl [1, 2, 3, 0] rfl)
          refine lv_iload hx hb dX6_reachOf_17 (lv_at hl 3 rfl) ?_
          refine lv_aload_n hx hb dX6_reachOf_19 rfl (lv_at hl 0 rfl) ?_
          refine q_getI (T := TX6) (N := 6) X hH hf iw_X6 rfl (by decide) tw_139 (fun _ h => h) dX6_reachOf_20 (fun v1 hf => ?_)
          refine lv_icmp_ge (tgt := 49) hx hb dX6_reachOf_23 (by decide) (fun c2 => ?_) (fun c2 => ?_)
          · have hf := (if_pos c2).mp hf
            exact hJ49 S l0 l2 l3 hf H locs ls hH (lv_sub hl [0, 1, 2] rfl)
          · have hf := (if_neg c2).mp hf
            refine lv_aload_n hx hb dX6_reachOf_26 rfl (lv_at hl 0 rfl) ?_
            refine lv_iload hx hb dX6_reachOf_27 (lv_at hl 3 rfl) ?_
            refine lv_iload_n hx hb dX6_reachOf_29 rfl (lv_at hl 1 rfl) ?_
            obtain ⟨hb1, hb2, hf⟩ := hf
            refine q_backI0 X hH (q_runV [.int l4, .int l2] [] X hH hl (c_X6_tieToSet l D cy G X.2.2.2.1 S l0 l4 l2 _ _ hf) mf_X6_tieToSet mv_X6_tieToSet tw_399 ⟨Nat.le_of_ble_eq_true rfl, Nat.le_of_ble_eq_true rfl⟩ hb1 hb2 (T := TX6) (N := 6) rfl rfl (Nat.le_of_ble_eq_true rfl) dX6_reachOf_30 ⟨Nat.le_of_ble_eq_true rfl, Nat.le_of_ble_eq_true rfl⟩) (fun v4 S3 hf H locs hH => ?_)
            refine lv_if_le (tgt := 43) hx hb dX6_reachOf_33 (by decide) (fun c5 => ?_) (fun c5 => ?_)
            · have hf := (if_pos c5).mp hf
              exact hJ43 S3 l0 l2 l3 l4 hf H locs ls hH hl
            · have hf := (if_neg c5).mp hf
              refine lv_iload_n hx hb dX6_reachOf_36 rfl (lv_at hl 1 rfl) ?_
              refine lv_iconst (v := 1) hx hb dX6_reachOf_37 (by decide) ?_
              refine lv_iload hx hb dX6_reachOf_38 (lv_at hl 3 rfl) ?_
              refine lv_ishl hx hb dX6_reachOf_40 ?_
              refine lv_ior hx hb dX6_reachOf_41 ?_
              refine lv_istore_n (lv' := [(2, .int (l2 ||| ((1 : Int32) <<< (l4 &&& 31)))), (0, .ref l0), (3, .int l3), (4, .int l4)]) hx hb dX6_reachOf_42 rfl hl (by decide) rfl (fun ls hl => ?_)
              exact hJ43 S3 l0 (l2 ||| ((1 : Int32) <<< (l4 &&& 31))) l3 l4 hf H locs ls hH (lv_sub hl [1, 0, 2, 3] rfl)
      refine lv_iload_n hx hb dX6_reachOf_6 rfl (lv_at hl 2 rfl) ?_
      refine lv_aload_n hx hb dX6_reachOf_7 rfl (lv_at hl 0 rfl) ?_
      refine q_getI (T := TX6) (N := 6) X hH hf iw_X6 rfl (by decide) tw_139 (fun _ h => h) dX6_reachOf_8 (fun v1 hf => ?_)
      refine lv_icmp_ge (tgt := 55) hx hb dX6_reachOf_11 (by decide) (fun c2 => ?_) (fun c2 => ?_)
      · have hf := (if_pos c2).mp hf
        refine lv_iload_n hx hb dX6_reachOf_55 rfl (lv_at hl 1 rfl) ?_
        exact q_retI X hH hr hlk hf (Nat.zero_le _) (Nat.zero_le _) dX6_reachOf_56
      · have hf := (if_neg c2).mp hf
        refine lv_iconst (v := 0) hx hb dX6_reachOf_14 (by decide) ?_
        refine lv_istore (lv' := [(4, .int 0), (0, .ref l0), (2, .int l2), (3, .int l3)]) hx hb dX6_reachOf_15 hl (by decide) rfl (fun ls hl => ?_)
        exact hL17 4096 S l0 l2 l3 0 hf H locs ls hH (lv_sub hl [1, 2, 3, 0] rfl)
  refine lv_iconst (v := 1) hx hb dX6_reachOf_0 (by decide) ?_
  refine lv_iload_n hx hb dX6_reachOf_1 rfl (lv_at hl 1 rfl) ?_
  refine lv_ishl hx hb dX6_reachOf_2 ?_
  refine lv_istore_n (lv' := [(2, .int ((1 : Int32) <<< (a1 &&& 31))), (0, .ref a0), (1, .int a1)]) hx hb dX6_reachOf_3 rfl hl (by decide) rfl (fun ls hl => ?_)
  refine lv_iconst (v := 0) hx hb dX6_reachOf_4 (by decide) ?_
  refine lv_istore_n (lv' := [(3, .int 0), (2, .int ((1 : Int32) <<< (a1 &&& 31))), (0, .ref a0), (1, .int a1)]) hx hb dX6_reachOf_5 rfl hl (by decide) rfl (fun ls hl => ?_)
  exact hL6 4096 S a0 ((1 : Int32) <<< (a1 &&& 31)) 0 hf H locs ls hH (lv_sub hl [2, 1, 0] rfl)
-- X7_init
def f_X7_init (S : PS) (a0 : Nat) (bc bs : Nat) (post : PS → Prop) : Prop :=
  nO S 10 [.null, .int 0, .int 0, .int 0, .int 0, .int 0] 6 bc bs fun q1 S2 bc3 bs4 => (
  ∃ mc6 ms6 : Nat, mc6 ≤ bc3 ∧ ms6 ≤ bs4 ∧ (f_X6_init S2 q1 mc6 ms6 fun S5 => (
  pV S5 a0 11 0 (.ref q1) fun S8 => (
  nO S8 10 [.null, .int 0, .int 0, .int 0, .int 0, .int 0] 6 (bc3 - mc6) (bs4 - ms6) fun q9 S10 bc11 bs12 => (
  ∃ mc14 ms14 : Nat, mc14 ≤ bc11 ∧ ms14 ≤ bs12 ∧ (f_X6_init S10 q9 mc14 ms14 fun S13 => (
  pV S13 a0 11 1 (.ref q9) fun S16 => (
  nO S16 10 [.null, .int 0, .int 0, .int 0, .int 0, .int 0] 6 (bc11 - mc14) (bs12 - ms14) fun q17 S18 bc19 bs20 => (
  ∃ mc22 ms22 : Nat, mc22 ≤ bc19 ∧ ms22 ≤ bs20 ∧ (f_X6_init S18 q17 mc22 ms22 fun S21 => (
  pV S21 a0 11 2 (.ref q17) fun S24 => (
  nO S24 6 [.null, .int 0, .int 0] 3 (bc19 - mc22) (bs20 - ms22) fun q25 S26 bc27 bs28 => (
  ∃ mc30 ms30 : Nat, mc30 ≤ bc27 ∧ ms30 ≤ bs28 ∧ (f_X2_init S26 q25 mc30 ms30 fun S29 => (
  pV S29 a0 11 3 (.ref q25) fun S32 => (
  nO S32 7 [.null, .null, .null, .null, .null, .int 0] 6 (bc27 - mc30) (bs28 - ms30) fun q33 S34 bc35 bs36 => (
  ∃ mc38 ms38 : Nat, mc38 ≤ bc35 ∧ ms38 ≤ bs36 ∧ (f_X3_init S34 q33 mc38 ms38 fun S37 => (
  pV S37 a0 11 4 (.ref q33) fun S40 => (
  nO S40 4 [.null, .int 0] 2 (bc35 - mc38) (bs36 - ms38) fun q41 S42 bc43 bs44 => (
  ∃ mc46 ms46 : Nat, mc46 ≤ bc43 ∧ ms46 ≤ bs44 ∧ (f_X0_init S42 q41 mc46 ms46 fun S45 => (
  pV S45 a0 11 5 (.ref q41) fun S48 => (
  nO S48 5 [.null, .null, .null] 3 (bc43 - mc46) (bs44 - ms46) fun q49 S50 bc51 bs52 => (
  ∃ mc54 ms54 : Nat, mc54 ≤ bc51 ∧ ms54 ≤ bs52 ∧ (f_X1_init S50 q49 mc54 ms54 fun S53 => (
  pV S53 a0 11 6 (.ref q49) fun S56 => (
  nO S56 9 [.null, .null, .null, .int 0, .int 0, .int 0, .int 0] 7 (bc51 - mc54) (bs52 - ms54) fun q57 S58 bc59 bs60 => (
  ∃ mc62 ms62 : Nat, mc62 ≤ bc59 ∧ ms62 ≤ bs60 ∧ (f_X5_init S58 q57 mc62 ms62 fun S61 => (
  pV S61 a0 11 7 (.ref q57) fun S64 => (
  nO S64 8 [.int 0, .int 0, .int 0, .int 0] 4 (bc59 - mc62) (bs60 - ms62) fun q65 S66 bc67 bs68 => (
  f_X4_init S66 q65 fun S69 => (
  pV S69 a0 11 8 (.ref q65) fun S71 => (
  nO S71 1 [.null, .int 0, .int 0, .int 0] 4 bc67 bs68 fun q72 S73 bc74 bs75 => (
  ∃ mc77 ms77 : Nat, mc77 ≤ bc74 ∧ ms77 ≤ bs75 ∧ (f_J4_init_da8c8 S73 q72 mc77 ms77 fun S76 => (
  pV S76 a0 11 9 (.ref q72) fun S79 => (
  nA S79 0 9 (bc74 - mc77) (bs75 - ms77) fun q80 S81 bc82 bs83 => (
  pV S81 a0 11 10 (.ref q80) fun S84 => (
  pV S84 a0 11 11 (.null) fun S85 => (
  post S85))))))))))))))))))))))))))))))))))))))))))
abbrev rm_X7_init (mc ms : Nat) : Room := { frames := 4, cells := mc, slots := ms, locals := 81 }
set_option maxHeartbeats 4000000 in
set_option maxRecDepth 100000 in
theorem c_X7_init (l : Launch) (D : va_G) (cy : Nat → ClassId) (G : p_GT) (hG : p_ok G) (hGC : ∀ (A : Nat → Prop) (U : State) (H : Heap), G A U H → gC A U H) (hGO : ∀ (A : Nat → Prop) (U : State) (H : Heap), G A U H → va_AO "VillageFeud$Village" U) (S : PS) (a0 : Nat) (mc ms : Nat) (post : PS → Prop) (sz : Nat) (hf : f_X7_init S a0 mc ms post) : p_Mv l D cy G S sz yX7_init (Cond.code yX7_init cX7_init 1 none :: wG) (rm_X7_init mc ms) [.ref a0] mc ms post := by
  refine q_start hG (Qc := fun A => va_Qv post (p_Post D cy A) A) mf_X7_init (Nat.le_of_ble_eq_true rfl) (own := RX7) rfl ?_
  intro p e s m below meth c A X hr hlk hnm ls hl hH
  have hx := X.1.1
  have hb := X.1.2.1
  replace hl : lv_has ls 1 [(0, .ref a0)] := hl
  have main : ∀ (H : Heap) (locs : List Loc) (ls : Array Slot) (cells slots bc bs : Nat), f_X7_init S a0 bc bs post → p_H D cy S A s H locs → lv_has ls 1 [(0, .ref a0)] → cells + bc ≤ mc ∧ slots + bs ≤ ms → W p l e (rm_X7_init mc ms) s m [.ref a0].toArray below meth c H locs cells slots (MQ below (va_Qv post (p_Post D cy A) A) [.ref a0].toArray s mc ms A) (F0 m 0 ls []) := by
    intro H locs ls cells slots bc bs hf hH hl hB
    refine lv_aload_n hx hb dX7_init_0 rfl (lv_at hl 0 rfl) ?_
    refine q_objInit X hl tw_129 tw_130 tw_o ⟨Nat.le_of_ble_eq_true rfl, Nat.le_of_ble_eq_true rfl⟩ (Nat.le_of_ble_eq_true rfl) dX7_init_1 ?_
    refine lv_aload_n hx hb dX7_init_4 rfl (lv_at hl 0 rfl) ?_
    refine q_new (T := TX6) (N := 6) X hH hB hf iw_X6 tyX6 tyX6_ok rfl tw_132 tw_133 tw_93 (fun j hj => by rcases (show j = 0 ∨ j = 1 ∨ j = 2 ∨ j = 3 ∨ j = 4 ∨ j = 5 by omega) with rfl | rfl | rfl | rfl | rfl | rfl <;> rfl) dX7_init_5 (fun q1 S2 bc3 bs4 hf H locs cells slots hH hB => ?_)
    refine lv_dup hx hb dX7_init_8 rfl ?_
    obtain ⟨mc6, ms6, hm1, hs1, hf⟩ := hf
    refine q_backVB X hH hB hm1 hs1 (q_runIN [] [.ref q1, .ref a0] X hH hl (c_X6_init l D cy G X.2.2.2.1 S2 q1 mc6 ms6 _ _ hf) mf_X6_init tw_135 (List.mem_of_getElem? (i := 7) rfl) ⟨Nat.le_of_ble_eq_true rfl, Nat.le_of_ble_eq_true rfl⟩ rfl (Nat.le_of_ble_eq_true rfl) dX7_init_9 ⟨Nat.le_trans (Nat.add_le_add_left hm1 _) hB.1, Nat.le_trans (Nat.add_le_add_left hs1 _) hB.2⟩) (fun S5 hf H locs cells slots hH hB => ?_)
    refine q_putF (T := TX7) (N := 12) (ty0 := tyX7) (ty := tyX7 0) X hH hf iw_X7 tyX7_ok nmX7 rfl (by decide) tw_319 (fun _ h => h) rfl hnm rfl (tyX7_ok 0 (by decide)) rfl rfl dX7_init_12 (fun S8 hf H locs hH => ?_)
    refine lv_aload_n hx hb dX7_init_15 rfl (lv_at hl 0 rfl) ?_
    refine q_new (T := TX6) (N := 6) X hH hB hf iw_X6 tyX6 tyX6_ok rfl tw_132 tw_133 tw_93 (fun j hj => by rcases (show j = 0 ∨ j = 1 ∨ j = 2 ∨ j = 3 ∨ j = 4 ∨ j = 5 by omega) with rfl | rfl | rfl | rfl | rfl | rfl <;> rfl) dX7_init_16 (fun q9 S10 bc11 bs12 hf H locs cells slots hH hB => ?_)
    refine lv_dup hx hb dX7_init_19 rfl ?_
    obtain ⟨mc14, ms14, hm1, hs1, hf⟩ := hf
    refine q_backVB X hH hB hm1 hs1 (q_runIN [] [.ref q9, .ref a0] X hH hl (c_X6_init l D cy G X.2.2.2.1 S10 q9 mc14 ms14 _ _ hf) mf_X6_init tw_135 (List.mem_of_getElem? (i := 7) rfl) ⟨Nat.le_of_ble_eq_true rfl, Nat.le_of_ble_eq_true rfl⟩ rfl (Nat.le_of_ble_eq_true rfl) dX7_init_20 ⟨Nat.le_trans (Nat.add_le_add_left hm1 _) hB.1, Nat.le_trans (Nat.add_le_add_left hs1 _) hB.2⟩) (fun S13 hf H locs cells slots hH hB => ?_)
    refine q_putF (T := TX7) (N := 12) (ty0 := tyX7) (ty := tyX7 1) X hH hf iw_X7 tyX7_ok nmX7 rfl (by decide) tw_320 (fun _ h => h) rfl hnm rfl (tyX7_ok 1 (by decide)) rfl rfl dX7_init_23 (fun S16 hf H locs hH => ?_)
    refine lv_aload_n hx hb dX7_init_26 rfl (lv_at hl 0 rfl) ?_
    refine q_new (T := TX6) (N := 6) X hH hB hf iw_X6 tyX6 tyX6_ok rfl tw_132 tw_133 tw_93 (fun j hj => by rcases (show j = 0 ∨ j = 1 ∨ j = 2 ∨ j = 3 ∨ j = 4 ∨ j = 5 by omega) with rfl | rfl | rfl | rfl | rfl | rfl <;> rfl) dX7_init_27 (fun q17 S18 bc19 bs20 hf H locs cells slots hH hB => ?_)
    refine lv_dup hx hb dX7_init_30 rfl ?_
    obtain ⟨mc22, ms22, hm1, hs1, hf⟩ := hf
    refine q_backVB X hH hB hm1 hs1 (q_runIN [] [.ref q17, .ref a0] X hH hl (c_X6_init l D cy G X.2.2.2.1 S18 q17 mc22 ms22 _ _ hf) mf_X6_init tw_135 (List.mem_of_getElem? (i := 7) rfl) ⟨Nat.le_of_ble_eq_true rfl, Nat.le_of_ble_eq_true rfl⟩ rfl (Nat.le_of_ble_eq_true rfl) dX7_init_31 ⟨Nat.le_trans (Nat.add_le_add_left hm1 _) hB.1, Nat.le_trans (Nat.add_le_add_left hs1 _) hB.2⟩) (fun S21 hf H locs cells slots hH hB => ?_)
    refine q_putF (T := TX7) (N := 12) (ty0 := tyX7) (ty := tyX7 2) X hH hf iw_X7 tyX7_ok nmX7 rfl (by decide) tw_321 (fun _ h => h) rfl hnm rfl (tyX7_ok 2 (by decide)) rfl rfl dX7_init_34 (fun S24 hf H locs hH => ?_)
    refine lv_aload_n hx hb dX7_init_37 rfl (lv_at hl 0 rfl) ?_
    refine q_new (T := TX2) (N := 3) X hH hB hf iw_X2 tyX2 tyX2_ok rfl tw_165 tw_166 tw_94 (fun j hj => by rcases (show j = 0 ∨ j = 1 ∨ j = 2 by omega) with rfl | rfl | rfl <;> rfl) dX7_init_38 (fun q25 S26 bc27 bs28 hf H locs cells slots hH hB => ?_)
    refine lv_dup hx hb dX7_init_41 rfl ?_
    obtain ⟨mc30, ms30, hm1, hs1, hf⟩ := hf
    refine q_backVB X hH hB hm1 hs1 (q_runIN [] [.ref q25, .ref a0] X hH hl (c_X2_init l D cy G X.2.2.2.1 hGO S26 q25 mc30 ms30 _ _ hf) mf_X2_init tw_168 (List.mem_of_getElem? (i := 8) rfl) ⟨Nat.le_of_ble_eq_true rfl, Nat.le_of_ble_eq_true rfl⟩ rfl (Nat.le_of_ble_eq_true rfl) dX7_init_42 ⟨Nat.le_trans (Nat.add_le_add_left hm1 _) hB.1, Nat.le_trans (Nat.add_le_add_left hs1 _) hB.2⟩) (fun S29 hf H locs cells slots hH hB => ?_)
    refine q_putF (T := TX7) (N := 12) (ty0 := tyX7) (ty := tyX7 3) X hH hf iw_X7 tyX7_ok nmX7 rfl (by decide) tw_322 (fun _ h => h) rfl hnm rfl (tyX7_ok 3 (by decide)) rfl rfl dX7_init_45 (fun S32 hf H locs hH => ?_)
    refine lv_aload_n hx hb dX7_init_48 rfl (lv_at hl 0 rfl) ?_
    refine q_new (T := TX3) (N := 6) X hH hB hf iw_X3 tyX3 tyX3_ok rfl tw_183 tw_184 tw_95 (fun j hj => by rcases (show j = 0 ∨ j = 1 ∨ j = 2 ∨ j = 3 ∨ j = 4 ∨ j = 5 by omega) with rfl | rfl | rfl | rfl | rfl | rfl <;> rfl) dX7_init_49 (fun q33 S34 bc35 bs36 hf H locs cells slots hH hB => ?_)
    refine lv_dup hx hb dX7_init_52 rfl ?_
    obtain ⟨mc38, ms38, hm1, hs1, hf⟩ := hf
    refine q_backVB X hH hB hm1 hs1 (q_runIN [] [.ref q33, .ref a0] X hH hl (c_X3_init l D cy G X.2.2.2.1 S34 q33 mc38 ms38 _ _ hf) mf_X3_init tw_186 (List.mem_of_getElem? (i := 9) rfl) ⟨Nat.le_of_ble_eq_true rfl, Nat.le_of_ble_eq_true rfl⟩ rfl (Nat.le_of_ble_eq_true rfl) dX7_init_53 ⟨Nat.le_trans (Nat.add_le_add_left hm1 _) hB.1, Nat.le_trans (Nat.add_le_add_left hs1 _) hB.2⟩) (fun S37 hf H locs cells slots hH hB => ?_)
    refine q_putF (T := TX7) (N := 12) (ty0 := tyX7) (ty := tyX7 4) X hH hf iw_X7 tyX7_ok nmX7 rfl (by decide) tw_323 (fun _ h => h) rfl hnm rfl (tyX7_ok 4 (by decide)) rfl rfl dX7_init_56 (fun S40 hf H locs hH => ?_)
    refine lv_aload_n hx hb dX7_init_59 rfl (lv_at hl 0 rfl) ?_
    refine q_new (T := TX0) (N := 2) X hH hB hf iw_X0 tyX0 tyX0_ok rfl tw_208 tw_209 tw_96 (fun j hj => by rcases (show j = 0 ∨ j = 1 by omega) with rfl | rfl <;> rfl) dX7_init_60 (fun q41 S42 bc43 bs44 hf H locs cells slots hH hB => ?_)
    refine lv_dup hx hb dX7_init_63 rfl ?_
    obtain ⟨mc46, ms46, hm1, hs1, hf⟩ := hf
    refine q_backVB X hH hB hm1 hs1 (q_runIN [] [.ref q41, .ref a0] X hH hl (c_X0_init l D cy G X.2.2.2.1 S42 q41 mc46 ms46 _ _ hf) mf_X0_init tw_211 (List.mem_of_getElem? (i := 10) rfl) ⟨Nat.le_of_ble_eq_true rfl, Nat.le_of_ble_eq_true rfl⟩ rfl (Nat.le_of_ble_eq_true rfl) dX7_init_64 ⟨Nat.le_trans (Nat.add_le_add_left hm1 _) hB.1, Nat.le_trans (Nat.add_le_add_left hs1 _) hB.2⟩) (fun S45 hf H locs cells slots hH hB => ?_)
    refine q_putF (T := TX7) (N := 12) (ty0 := tyX7) (ty := tyX7 5) X hH hf iw_X7 tyX7_ok nmX7 rfl (by decide) tw_324 (fun _ h => h) rfl hnm rfl (tyX7_ok 5 (by decide)) rfl rfl dX7_init_67 (fun S48 hf H locs hH => ?_)
    refine lv_aload_n hx hb dX7_init_70 rfl (lv_at hl 0 rfl) ?_
    refine q_new (T := TX1) (N := 3) X hH hB hf iw_X1 tyX1 tyX1_ok rfl tw_221 tw_222 tw_97 (fun j hj => by rcases (show j = 0 ∨ j = 1 ∨ j = 2 by omega) with rfl | rfl | rfl <;> rfl) dX7_init_71 (fun q49 S50 bc51 bs52 hf H locs cells slots hH hB => ?_)
    refine lv_dup hx hb dX7_init_74 rfl ?_
    obtain ⟨mc54, ms54, hm1, hs1, hf⟩ := hf
    refine q_backVB X hH hB hm1 hs1 (q_runIN [] [.ref q49, .ref a0] X hH hl (c_X1_init l D cy G X.2.2.2.1 S50 q49 mc54 ms54 _ _ hf) mf_X1_init tw_224 (List.mem_of_getElem? (i := 11) rfl) ⟨Nat.le_of_ble_eq_true rfl, Nat.le_of_ble_eq_true rfl⟩ rfl (Nat.le_of_ble_eq_true rfl) dX7_init_75 ⟨Nat.le_trans (Nat.add_le_add_left hm1 _) hB.1, Nat.le_trans (Nat.add_le_add_left hs1 _) hB.2⟩) (fun S53 hf H locs cells slots hH hB => ?_)
    refine q_putF (T := TX7) (N := 12) (ty0 := tyX7) (ty := tyX7 6) X hH hf iw_X7 tyX7_ok nmX7 rfl (by decide) tw_325 (fun _ h => h) rfl hnm rfl (tyX7_ok 6 (by decide)) rfl rfl dX7_init_78 (fun S56 hf H locs hH => ?_)
    refine lv_aload_n hx hb dX7_init_81 rfl (lv_at hl 0 rfl) ?_
    refine q_new (T := TX5) (N := 7) X hH hB hf iw_X5 tyX5 tyX5_ok rfl tw_237 tw_238 tw_98 (fun j hj => by rcases (show j = 0 ∨ j = 1 ∨ j = 2 ∨ j = 3 ∨ j = 4 ∨ j = 5 ∨ j = 6 by omega) with rfl | rfl | rfl | rfl | rfl | rfl | rfl <;> rfl) dX7_init_82 (fun q57 S58 bc59 bs60 hf H locs cells slots hH hB => ?_)
    refine lv_dup hx hb dX7_init_85 rfl ?_
    obtain ⟨mc62, ms62, hm1, hs1, hf⟩ := hf
    refine q_backVB X hH hB hm1 hs1 (q_runIN [] [.ref q57, .ref a0] X hH hl (c_X5_init l D cy G X.2.2.2.1 hGC S58 q57 mc62 ms62 _ _ hf) mf_X5_init tw_240 (List.mem_of_getElem? (i := 12) rfl) ⟨Nat.le_of_ble_eq_true rfl, Nat.le_of_ble_eq_true rfl⟩ rfl (Nat.le_of_ble_eq_true rfl) dX7_init_86 ⟨Nat.le_trans (Nat.add_le_add_left hm1 _) hB.1, Nat.le_trans (Nat.add_le_add_left hs1 _) hB.2⟩) (fun S61 hf H locs cells slots hH hB => ?_)
    refine q_putF (T := TX7) (N := 12) (ty0 := tyX7) (ty := tyX7 7) X hH hf iw_X7 tyX7_ok nmX7 rfl (by decide) tw_326 (fun _ h => h) rfl hnm rfl (tyX7_ok 7 (by decide)) rfl rfl dX7_init_89 (fun S64 hf H locs hH => ?_)
    refine lv_aload_n hx hb dX7_init_92 rfl (lv_at hl 0 rfl) ?_
    refine q_new (T := TX4) (N := 4) X hH hB hf iw_X4 tyX4 tyX4_ok rfl tw_298 tw_299 tw_103 (fun j hj => by rcases (show j = 0 ∨ j = 1 ∨ j = 2 ∨ j = 3 by omega) with rfl | rfl | rfl | rfl <;> rfl) dX7_init_93 (fun q65 S66 bc67 bs68 hf H locs cells slots hH hB => ?_)
    refine lv_dup hx hb dX7_init_96 rfl ?_
    refine q_backV0 X hH (q_runIN [] [.ref q65, .ref a0] X hH hl (c_X4_init l D cy G X.2.2.2.1 S66 q65 _ _ hf) mf_X4_init tw_301 (List.mem_of_getElem? (i := 13) rfl) ⟨Nat.le_of_ble_eq_true rfl, Nat.le_of_ble_eq_true rfl⟩ rfl (Nat.le_of_ble_eq_true rfl) dX7_init_97 ⟨Nat.le_trans (Nat.le_add_right _ _) hB.1, Nat.le_trans (Nat.le_add_right _ _) hB.2⟩) (fun S69 hf H locs hH => ?_)
    refine q_putF (T := TX7) (N := 12) (ty0 := tyX7) (ty := tyX7 8) X hH hf iw_X7 tyX7_ok nmX7 rfl (by decide) tw_327 (fun _ h => h) rfl hnm rfl (tyX7_ok 8 (by decide)) rfl rfl dX7_init_100 (fun S71 hf H locs hH => ?_)
    refine lv_aload_n hx hb dX7_init_103 rfl (lv_at hl 0 rfl) ?_
    refine q_new (T := TJ4) (N := 4) X hH hB hf iw_J4 tyJ4 tyJ4_ok rfl tw_317 tw_244 tw_100 (fun j hj => by rcases (show j = 0 ∨ j = 1 ∨ j = 2 ∨ j = 3 by omega) with rfl | rfl | rfl | rfl <;> rfl) dX7_init_104 (fun q72 S73 bc74 bs75 hf H locs cells slots hH hB => ?_)
    refine lv_dup hx hb dX7_init_107 rfl ?_
    obtain ⟨mc77, ms77, hm1, hs1, hf⟩ := hf
    refine q_backVB X hH hB hm1 hs1 (q_runI [] [.ref q72, .ref a0] X hH hl (c_J4_init_da8c8 l D cy G X.2.2.2.1 hGC S73 q72 mc77 ms77 _ _ hf) mf_J4_init_da8c8 tw_246 tw_318 ⟨Nat.le_of_ble_eq_true rfl, Nat.le_of_ble_eq_true rfl⟩ rfl (Nat.le_of_ble_eq_true rfl) dX7_init_108 ⟨Nat.le_trans (Nat.add_le_add_left hm1 _) hB.1, Nat.le_trans (Nat.add_le_add_left hs1 _) hB.2⟩) (fun S76 hf H locs cells slots hH hB => ?_)
    refine q_putF (T := TX7) (N := 12) (ty0 := tyX7) (ty := tyX7 9) X hH hf iw_X7 tyX7_ok nmX7 rfl (by decide) tw_328 (fun _ h => h) rfl hnm rfl (tyX7_ok 9 (by decide)) rfl rfl dX7_init_111 (fun S79 hf H locs hH => ?_)
    refine lv_aload_n hx hb dX7_init_114 rfl (lv_at hl 0 rfl) ?_
    refine lv_bipush (v := 9) hx hb dX7_init_115 (by decide) ?_
    refine q_newa (t := 0) (atype := .int) (ty := .int) X hH hB hf tw_164 rfl rfl (fun C h => by cases h) (fun N cA => rfl) (by decide) dX7_init_117 (fun q80 S81 bc82 bs83 hf H locs cells slots hH hB => ?_)
    refine q_putF (T := TX7) (N := 12) (ty0 := tyX7) (ty := tyX7 10) X hH hf iw_X7 tyX7_ok nmX7 rfl (by decide) tw_329 (fun _ h => h) rfl hnm rfl (tyX7_ok 10 (by decide)) rfl rfl dX7_init_119 (fun S84 hf H locs hH => ?_)
    refine lv_aload_n hx hb dX7_init_122 rfl (lv_at hl 0 rfl) ?_
    refine lv_null hx hb dX7_init_123 ?_
    refine q_putV (T := TX7) (N := 12) (ty0 := tyX7) (ty := tyX7 11) X hH hf iw_X7 tyX7_ok nmX7 rfl (by decide) tw_330 (fun _ h => h) rfl (tyX7_ok 11 (by decide)) rfl rfl dX7_init_124 (fun S85 hf H locs hH => ?_)
    exact q_retV X hH hr hlk hf (Nat.le_trans (Nat.le_add_right _ _) hB.1) (Nat.le_trans (Nat.le_add_right _ _) hB.2) dX7_init_127
  exact main s.heap [] ls 0 0 mc ms hf hH hl ⟨by omega, by omega⟩
-- X7_householdOf
def f_X7_householdOf (S : PS) (a0 : Nat) (a1 : Int32) (a2 : Int32) (bc bs : Nat) (post : Int32 → PS → Prop) (postX : String → PS → Prop) : Prop :=
  gR S a0 11 0 fun v1 => (
  isO S v1 10 (
  f_X6_has S v1 a1 fun v3 S2 => (
  if v3 = 0 then
    tX S2 "java/lang/IndexOutOfBoundsException" bc bs postX
  else
    if a2 = 0 then
      gR S2 a0 11 0 fun v6 => (
      isO S2 v6 10 (
      f_X6_sideOf S2 v6 a1 fun v8 S7 => (
      post v8 S7)))
    else
    if a2 = 1 then
      gR S2 a0 11 0 fun v10 => (
      isO S2 v10 10 (
      f_X6_bondsOf S2 v10 a1 fun v12 S11 => (
      post v12 S11)))
    else
    if a2 = 2 then
      gR S2 a0 11 0 fun v14 => (
      gR S2 a0 11 0 fun v15 => (
      isO S2 v15 10 (
      f_X6_everyone S2 v15 fun v17 S16 => (
      isO S16 v14 10 (
      f_X6_tieToSet S16 v14 a1 v17 fun v19 S18 => (
      post v19 S18))))))
    else
    if a2 = 3 then
      gR S2 a0 11 0 fun v21 => (
      gR S2 a0 11 0 fun v22 => (
      isO S2 v22 10 (
      f_X6_sameSide S2 v22 a1 fun v24 S23 => (
      isO S23 v21 10 (
      f_X6_tieToSet S23 v21 a1 v24 fun v26 S25 => (
      post v26 S25))))))
    else
    if a2 = 4 then
      gR S2 a0 11 0 fun v28 => (
      gR S2 a0 11 0 fun v29 => (
      isO S2 v29 10 (
      f_X6_otherSide S2 v29 a1 fun v31 S30 => (
      isO S30 v28 10 (
      f_X6_tieToSet S30 v28 a1 v31 fun v33 S32 => (
      post v33 S32))))))
    else
    if a2 = 5 then
      gR S2 a0 11 0 fun v35 => (
      isO S2 v35 10 (
      f_X6_closestTo S2 v35 a1 fun v37 S36 => (
      post v37 S36)))
    else
      tX S2 "java/lang/IllegalArgumentException" bc bs postX)))
abbrev rm_X7_householdOf (mc ms : Nat) : Room := { frames := 6, cells := mc, slots := ms, locals := 90 }
set_option maxHeartbeats 4000000 in
set_option maxRecDepth 100000 in
theorem c_X7_householdOf (l : Launch) (D : va_G) (cy : Nat → ClassId) (G : p_GT) (hG : p_ok G) (hst : l.stackTraces = false) (hGE : ∀ (A : Nat → Prop) (U : State) (H : Heap), G A U H → p_Ex A U H) (S : PS) (a0 : Nat) (a1 : Int32) (a2 : Int32) (mc ms : Nat) (post : Int32 → PS → Prop) (postX : String → PS → Prop) (sz : Nat) (hf : f_X7_householdOf S a0 a1 a2 mc ms post postX) : p_Xi l D cy G S sz yX7_householdOf (Cond.code yX7_householdOf cX7_householdOf 3 (some .int) :: wG) (rm_X7_householdOf mc ms) [.ref a0, .int a1, .int a2] mc ms post postX := by
  refine q_startX hG (Qc := fun A => va_Qi post (p_Post D cy A) A) (XC := fun A => p_XC D cy A postX) mf_X7_householdOf (Nat.le_of_ble_eq_true rfl) (own := RX7) rfl ?_
  intro p e s m below meth c A X hr hlk hnm htab ls hl hH
  have hx := X.1.1
  have hb := X.1.2.1
  replace hl : lv_has ls 3 [(0, .ref a0), (1, .int a1), (2, .int a2)] := hl
  have main : ∀ (H : Heap) (locs : List Loc) (ls : Array Slot) (cells slots bc bs : Nat), f_X7_householdOf S a0 a1 a2 bc bs post postX → p_H D cy S A s H locs → lv_has ls 3 [(0, .ref a0), (1, .int a1), (2, .int a2)] → cells + bc ≤ mc ∧ slots + bs ≤ ms → W p l e (rm_X7_householdOf mc ms) s m [.ref a0, .int a1, .int a2].toArray below meth c H locs cells slots (vx_MQ below (va_Qi post (p_Post D cy A) A) (p_XC D cy A postX) [.ref a0, .int a1, .int a2].toArray s mc ms A) (F0 m 0 ls []) := by
    intro H locs ls cells slots bc bs hf hH hl hB
    refine lv_aload_n hx hb dX7_householdOf_0 rfl (lv_at hl 0 rfl) ?_
    refine q_getR (T := TX7) (N := 12) X hH hf iw_X7 rfl (by decide) tw_319 (fun _ h => h) dX7_householdOf_1 (fun v1 hf => ?_)
    refine lv_iload_n hx hb dX7_householdOf_4 rfl (lv_at hl 1 rfl) ?_
    obtain ⟨hb1, hb2, hf⟩ := hf
    refine q_backI0 X hH (q_runV [.int a1] [] X hH hl (c_X6_has l D cy G X.2.2.2.1 S v1 a1 _ _ hf) mf_X6_has mv_X6_has tw_973 ⟨Nat.le_of_ble_eq_true rfl, Nat.le_of_ble_eq_true rfl⟩ hb1 hb2 (T := TX6) (N := 6) rfl rfl (Nat.le_of_ble_eq_true rfl) dX7_householdOf_5 ⟨Nat.le_trans (Nat.le_add_right _ _) hB.1, Nat.le_trans (Nat.le_add_right _ _) hB.2⟩) (fun v3 S2 hf H locs hH => ?_)
    refine lv_if_ne (tgt := 21) hx hb dX7_householdOf_8 (by decide) (fun c4 => ?_) (fun c4 => ?_)
    · have hf := (if_neg c4).mp hf
      refine lv_iload_n hx hb dX7_householdOf_21 rfl (lv_at hl 2 rfl) ?_
      by_cases c5 : a2 = 0
      · have hf := (if_pos c5).mp hf
        refine lv_tableIn (off := 38) (tgt := 60) hx hb dX7_householdOf_22 (by rw [c5]; decide) (by rw [c5]; decide) (by rw [c5]; rfl) (by decide) ?_
        refine lv_aload_n hx hb dX7_householdOf_60 rfl (lv_at hl 0 rfl) ?_
        refine q_getR (T := TX7) (N := 12) X hH hf iw_X7 rfl (by decide) tw_319 (fun _ h => h) dX7_householdOf_61 (fun v6 hf => ?_)
        refine lv_iload_n hx hb dX7_householdOf_64 rfl (lv_at hl 1 rfl) ?_
        obtain ⟨hb1, hb2, hf⟩ := hf
        refine q_backI0 X hH (q_runV [.int a1] [] X hH hl (c_X6_sideOf l D cy G X.2.2.2.1 S2 v6 a1 _ _ hf) mf_X6_sideOf mv_X6_sideOf tw_986 ⟨Nat.le_of_ble_eq_true rfl, Nat.le_of_ble_eq_true rfl⟩ hb1 hb2 (T := TX6) (N := 6) rfl rfl (Nat.le_of_ble_eq_true rfl) dX7_householdOf_65 ⟨Nat.le_trans (Nat.le_add_right _ _) hB.1, Nat.le_trans (Nat.le_add_right _ _) hB.2⟩) (fun v8 S7 hf H locs hH => ?_)
        exact vx_ret (q_retI X hH hr hlk hf (Nat.le_trans (Nat.le_add_right _ _) hB.1) (Nat.le_trans (Nat.le_add_right _ _) hB.2) dX7_householdOf_68)
      · have hf := (if_neg c5).mp hf
        by_cases c9 : a2 = 1
        · have hf := (if_pos c9).mp hf
          refine lv_tableIn (off := 47) (tgt := 69) hx hb dX7_householdOf_22 (by rw [c9]; decide) (by rw [c9]; decide) (by rw [c9]; rfl) (by decide) ?_
          refine lv_aload_n hx hb dX7_householdOf_69 rfl (lv_at hl 0 rfl) ?_
          refine q_getR (T := TX7) (N := 12) X hH hf iw_X7 rfl (by decide) tw_319 (fun _ h => h) dX7_householdOf_70 (fun v10 hf => ?_)
          refine lv_iload_n hx hb dX7_householdOf_73 rfl (lv_at hl 1 rfl) ?_
          obtain ⟨hb1, hb2, hf⟩ := hf
          refine q_backI0 X hH (q_runV [.int a1] [] X hH hl (c_X6_bondsOf l D cy G X.2.2.2.1 S2 v10 a1 _ _ hf) mf_X6_bondsOf mv_X6_bondsOf tw_1126 ⟨Nat.le_of_ble_eq_true rfl, Nat.le_of_ble_eq_true rfl⟩ hb1 hb2 (T := TX6) (N := 6) rfl rfl (Nat.le_of_ble_eq_true rfl) dX7_householdOf_74 ⟨Nat.le_trans (Nat.le_add_right _ _) hB.1, Nat.le_trans (Nat.le_add_right _ _) hB.2⟩) (fun v12 S11 hf H locs hH => ?_)
          exact vx_ret (q_retI X hH hr hlk hf (Nat.le_trans (Nat.le_add_right _ _) hB.1) (Nat.le_trans (Nat.le_add_right _ _) hB.2) dX7_householdOf_77)
        · have hf := (if_neg c9).mp hf
          by_cases c13 : a2 = 2
          · have hf := (if_pos c13).mp hf
            refine lv_tableIn (off := 56) (tgt := 78) hx hb dX7_householdOf_22 (by rw [c13]; decide) (by rw [c13]; decide) (by rw [c13]; rfl) (by decide) ?_
            refine lv_aload_n hx hb dX7_householdOf_78 rfl (lv_at hl 0 rfl) ?_
            refine q_getR (T := TX7) (N := 12) X hH hf iw_X7 rfl (by decide) tw_319 (fun _ h => h) dX7_householdOf_79 (fun v14 hf => ?_)
            refine lv_iload_n hx hb dX7_householdOf_82 rfl (lv_at hl 1 rfl) ?_
            refine lv_aload_n hx hb dX7_householdOf_83 rfl (lv_at hl 0 rfl) ?_
            refine q_getR (T := TX7) (N := 12) X hH hf iw_X7 rfl (by decide) tw_319 (fun _ h => h) dX7_householdOf_84 (fun v15 hf => ?_)
            obtain ⟨hb1, hb2, hf⟩ := hf
            refine q_backI0 X hH (q_runV [] [.int a1, .ref v14] X hH hl (c_X6_everyone l D cy G X.2.2.2.1 S2 v15 _ _ hf) mf_X6_everyone mv_X6_everyone tw_935 ⟨Nat.le_of_ble_eq_true rfl, Nat.le_of_ble_eq_true rfl⟩ hb1 hb2 (T := TX6) (N := 6) rfl rfl (Nat.le_of_ble_eq_true rfl) dX7_householdOf_87 ⟨Nat.le_trans (Nat.le_add_right _ _) hB.1, Nat.le_trans (Nat.le_add_right _ _) hB.2⟩) (fun v17 S16 hf H locs hH => ?_)
            obtain ⟨hb1, hb2, hf⟩ := hf
            refine q_backI0 X hH (q_runV [.int a1, .int v17] [] X hH hl (c_X6_tieToSet l D cy G X.2.2.2.1 S16 v14 a1 v17 _ _ hf) mf_X6_tieToSet mv_X6_tieToSet tw_1127 ⟨Nat.le_of_ble_eq_true rfl, Nat.le_of_ble_eq_true rfl⟩ hb1 hb2 (T := TX6) (N := 6) rfl rfl (Nat.le_of_ble_eq_true rfl) dX7_householdOf_90 ⟨Nat.le_trans (Nat.le_add_right _ _) hB.1, Nat.le_trans (Nat.le_add_right _ _) hB.2⟩) (fun v19 S18 hf H locs hH => ?_)
            exact vx_ret (q_retI X hH hr hlk hf (Nat.le_trans (Nat.le_add_right _ _) hB.1) (Nat.le_trans (Nat.le_add_right _ _) hB.2) dX7_householdOf_93)
          · have hf := (if_neg c13).mp hf
            by_cases c20 : a2 = 3
            · have hf := (if_pos c20).mp hf
              refine lv_tableIn (off := 72) (tgt := 94) hx hb dX7_householdOf_22 (by rw [c20]; decide) (by rw [c20]; decide) (by rw [c20]; rfl) (by decide) ?_
              refine lv_aload_n hx hb dX7_householdOf_94 rfl (lv_at hl 0 rfl) ?_
              refine q_getR (T := TX7) (N := 12) X hH hf iw_X7 rfl (by decide) tw_319 (fun _ h => h) dX7_householdOf_95 (fun v21 hf => ?_)
              refine lv_iload_n hx hb dX7_householdOf_98 rfl (lv_at hl 1 rfl) ?_
              refine lv_aload_n hx hb dX7_householdOf_99 rfl (lv_at hl 0 rfl) ?_
              refine q_getR (T := TX7) (N := 12) X hH hf iw_X7 rfl (by decide) tw_319 (fun _ h => h) dX7_householdOf_100 (fun v22 hf => ?_)
              refine lv_iload_n hx hb dX7_householdOf_103 rfl (lv_at hl 1 rfl) ?_
              obtain ⟨hb1, hb2, hf⟩ := hf
              refine q_backI0 X hH (q_runV [.int a1] [.int a1, .ref v21] X hH hl (c_X6_sameSide l D cy G X.2.2.2.1 S2 v22 a1 _ _ hf) mf_X6_sameSide mv_X6_sameSide tw_1128 ⟨Nat.le_of_ble_eq_true rfl, Nat.le_of_ble_eq_true rfl⟩ hb1 hb2 (T := TX6) (N := 6) rfl rfl (Nat.le_of_ble_eq_true rfl) dX7_householdOf_104 ⟨Nat.le_trans (Nat.le_add_right _ _) hB.1, Nat.le_trans (Nat.le_add_right _ _) hB.2⟩) (fun v24 S23 hf H locs hH => ?_)
              obtain ⟨hb1, hb2, hf⟩ := hf
              refine q_backI0 X hH (q_runV [.int a1, .int v24] [] X hH hl (c_X6_tieToSet l D cy G X.2.2.2.1 S23 v21 a1 v24 _ _ hf) mf_X6_tieToSet mv_X6_tieToSet tw_1127 ⟨Nat.le_of_ble_eq_true rfl, Nat.le_of_ble_eq_true rfl⟩ hb1 hb2 (T := TX6) (N := 6) rfl rfl (Nat.le_of_ble_eq_true rfl) dX7_householdOf_107 ⟨Nat.le_trans (Nat.le_add_right _ _) hB.1, Nat.le_trans (Nat.le_add_right _ _) hB.2⟩) (fun v26 S25 hf H locs hH => ?_)
              exact vx_ret (q_retI X hH hr hlk hf (Nat.le_trans (Nat.le_add_right _ _) hB.1) (Nat.le_trans (Nat.le_add_right _ _) hB.2) dX7_householdOf_110)
            · have hf := (if_neg c20).mp hf
              by_cases c27 : a2 = 4
              · have hf := (if_pos c27).mp hf
                refine lv_tableIn (off := 89) (tgt := 111) hx hb dX7_householdOf_22 (by rw [c27]; decide) (by rw [c27]; decide) (by rw [c27]; rfl) (by decide) ?_
                refine lv_aload_n hx hb dX7_householdOf_111 rfl (lv_at hl 0 rfl) ?_
                refine q_getR (T := TX7) (N := 12) X hH hf iw_X7 rfl (by decide) tw_319 (fun _ h => h) dX7_householdOf_112 (fun v28 hf => ?_)
                refine lv_iload_n hx hb dX7_householdOf_115 rfl (lv_at hl 1 rfl) ?_
                refine lv_aload_n hx hb dX7_householdOf_116 rfl (lv_at hl 0 rfl) ?_
                refine q_getR (T := TX7) (N := 12) X hH hf iw_X7 rfl (by decide) tw_319 (fun _ h => h) dX7_householdOf_117 (fun v29 hf => ?_)
                refine lv_iload_n hx hb dX7_householdOf_120 rfl (lv_at hl 1 rfl) ?_
                obtain ⟨hb1, hb2, hf⟩ := hf
                refine q_backI0 X hH (q_runV [.int a1] [.int a1, .ref v28] X hH hl (c_X6_otherSide l D cy G X.2.2.2.1 S2 v29 a1 _ _ hf) mf_X6_otherSide mv_X6_otherSide tw_1129 ⟨Nat.le_of_ble_eq_true rfl, Nat.le_of_ble_eq_true rfl⟩ hb1 hb2 (T := TX6) (N := 6) rfl rfl (Nat.le_of_ble_eq_true rfl) dX7_householdOf_121 ⟨Nat.le_trans (Nat.le_add_right _ _) hB.1, Nat.le_trans (Nat.le_add_right _ _) hB.2⟩) (fun v31 S30 hf H locs hH => ?_)
                obtain ⟨hb1, hb2, hf⟩ := hf
                refine q_backI0 X hH (q_runV [.int a1, .int v31] [] X hH hl (c_X6_tieToSet l D cy G X.2.2.2.1 S30 v28 a1 v31 _ _ hf) mf_X6_tieToSet mv_X6_tieToSet tw_1127 ⟨Nat.le_of_ble_eq_true rfl, Nat.le_of_ble_eq_true rfl⟩ hb1 hb2 (T := TX6) (N := 6) rfl rfl (Nat.le_of_ble_eq_true rfl) dX7_householdOf_124 ⟨Nat.le_trans (Nat.le_add_right _ _) hB.1, Nat.le_trans (Nat.le_add_right _ _) hB.2⟩) (fun v33 S32 hf H locs hH => ?_)
                exact vx_ret (q_retI X hH hr hlk hf (Nat.le_trans (Nat.le_add_right _ _) hB.1) (Nat.le_trans (Nat.le_add_right _ _) hB.2) dX7_householdOf_127)
              · have hf := (if_neg c27).mp hf
                by_cases c34 : a2 = 5
                · have hf := (if_pos c34).mp hf
                  refine lv_tableIn (off := 106) (tgt := 128) hx hb dX7_householdOf_22 (by rw [c34]; decide) (by rw [c34]; decide) (by rw [c34]; rfl) (by decide) ?_
                  refine lv_aload_n hx hb dX7_householdOf_128 rfl (lv_at hl 0 rfl) ?_
                  refine q_getR (T := TX7) (N := 12) X hH hf iw_X7 rfl (by decide) tw_319 (fun _ h => h) dX7_householdOf_129 (fun v35 hf => ?_)
                  refine lv_iload_n hx hb dX7_householdOf_132 rfl (lv_at hl 1 rfl) ?_
                  obtain ⟨hb1, hb2, hf⟩ := hf
                  refine q_backI0 X hH (q_runV [.int a1] [] X hH hl (c_X6_closestTo l D cy G X.2.2.2.1 S2 v35 a1 _ _ hf) mf_X6_closestTo mv_X6_closestTo tw_1130 ⟨Nat.le_of_ble_eq_true rfl, Nat.le_of_ble_eq_true rfl⟩ hb1 hb2 (T := TX6) (N := 6) rfl rfl (Nat.le_of_ble_eq_true rfl) dX7_householdOf_133 ⟨Nat.le_trans (Nat.le_add_right _ _) hB.1, Nat.le_trans (Nat.le_add_right _ _) hB.2⟩) (fun v37 S36 hf H locs hH => ?_)
                  exact vx_ret (q_retI X hH hr hlk hf (Nat.le_trans (Nat.le_add_right _ _) hB.1) (Nat.le_trans (Nat.le_add_right _ _) hB.2) dX7_householdOf_136)
                · have hf := (if_neg c34).mp hf
                  refine lv_tableOut (tgt := 137) hx hb dX7_householdOf_22 (by have z0 := lv_neT c5 (a := 0) rfl; have z1 := lv_neT c9 (a := 1) rfl; have z2 := lv_neT c13 (a := 2) rfl; have z3 := lv_neT c20 (a := 3) rfl; have z4 := lv_neT c27 (a := 4) rfl; have z5 := lv_neT c34 (a := 5) rfl; omega) (by decide) ?_
                  exact q_throw X hH hl hB rfl rfl hst (hGE _ _ _ X.2.2.2.2) hf tw_1134 tw_113 (text := "what is not 0 to 5") (List.mem_of_getElem? (i := 7) rfl) xa_IllegalArgumentException xg_IllegalArgumentException (by decide +kernel) (by decide +kernel) dX7_householdOf_137 dX7_householdOf_140 dX7_householdOf_141 dX7_householdOf_143 dX7_householdOf_146 htab ⟨Nat.le_of_ble_eq_true rfl, Nat.le_of_ble_eq_true rfl⟩ (Nat.le_of_ble_eq_true rfl) hlk
    · have hf := (if_pos c4).mp hf
      exact q_throw X hH hl hB rfl rfl hst (hGE _ _ _ X.2.2.2.2) hf tw_1106 tw_111 (text := "there is no such household") (List.mem_of_getElem? (i := 1) rfl) xa_IndexOutOfBoundsException xg_IndexOutOfBoundsException (by decide +kernel) (by decide +kernel) dX7_householdOf_11 dX7_householdOf_14 dX7_householdOf_15 dX7_householdOf_17 dX7_householdOf_20 htab ⟨Nat.le_of_ble_eq_true rfl, Nat.le_of_ble_eq_true rfl⟩ (Nat.le_of_ble_eq_true rfl) hlk
  exact main s.heap [] ls 0 0 mc ms hf hH hl ⟨by omega, by omega⟩
-- X7_tied
def f_X7_tied_J28 (post : Int32 → PS → Prop) (postX : String → PS → Prop) (S : PS) (bc bs : Nat)  : Prop :=
  tX S "java/lang/IllegalArgumentException" bc bs postX
def f_X7_tied (S : PS) (a0 : Nat) (a1 : Int32) (a2 : Int32) (bc bs : Nat) (post : Int32 → PS → Prop) (postX : String → PS → Prop) : Prop :=
  gR S a0 11 0 fun v1 => (
  isO S v1 10 (
  f_X6_hasAll S v1 a1 fun v3 S2 => (
  if v3 = 0 then
    f_X7_tied_J28 post postX S2 bc bs
  else
    gR S2 a0 11 0 fun v5 => (
    isO S2 v5 10 (
    f_X6_hasAll S2 v5 a2 fun v7 S6 => (
    if v7 = 0 then
      f_X7_tied_J28 post postX S6 bc bs
    else
      if (a1 &&& a2) = 0 then
        gR S6 a0 11 0 fun v10 => (
        isO S6 v10 10 (
        f_X6_tieOfSets S6 v10 a1 a2 fun v12 S11 => (
        post v12 S11)))
      else
        f_X7_tied_J28 post postX S6 bc bs))))))
abbrev rm_X7_tied (mc ms : Nat) : Room := { frames := 6, cells := mc, slots := ms, locals := 91 }
set_option maxHeartbeats 4000000 in
set_option maxRecDepth 100000 in
theorem c_X7_tied (l : Launch) (D : va_G) (cy : Nat → ClassId) (G : p_GT) (hG : p_ok G) (hst : l.stackTraces = false) (hGE : ∀ (A : Nat → Prop) (U : State) (H : Heap), G A U H → p_Ex A U H) (S : PS) (a0 : Nat) (a1 : Int32) (a2 : Int32) (mc ms : Nat) (post : Int32 → PS → Prop) (postX : String → PS → Prop) (sz : Nat) (hf : f_X7_tied S a0 a1 a2 mc ms post postX) : p_Xi l D cy G S sz yX7_tied (Cond.code yX7_tied cX7_tied 3 (some .int) :: wG) (rm_X7_tied mc ms) [.ref a0, .int a1, .int a2] mc ms post postX := by
  refine q_startX hG (Qc := fun A => va_Qi post (p_Post D cy A) A) (XC := fun A => p_XC D cy A postX) mf_X7_tied (Nat.le_of_ble_eq_true rfl) (own := RX7) rfl ?_
  intro p e s m below meth c A X hr hlk hnm htab ls hl hH
  have hx := X.1.1
  have hb := X.1.2.1
  replace hl : lv_has ls 3 [(0, .ref a0), (1, .int a1), (2, .int a2)] := hl
  have main : ∀ (H : Heap) (locs : List Loc) (ls : Array Slot) (cells slots bc bs : Nat), f_X7_tied S a0 a1 a2 bc bs post postX → p_H D cy S A s H locs → lv_has ls 3 [(0, .ref a0), (1, .int a1), (2, .int a2)] → cells + bc ≤ mc ∧ slots + bs ≤ ms → W p l e (rm_X7_tied mc ms) s m [.ref a0, .int a1, .int a2].toArray below meth c H locs cells slots (vx_MQ below (va_Qi post (p_Post D cy A) A) (p_XC D cy A postX) [.ref a0, .int a1, .int a2].toArray s mc ms A) (F0 m 0 ls []) := by
    intro H locs ls cells slots bc bs hf hH hl hB
    have hJ28 : ∀ (S : PS) (bc bs : Nat), f_X7_tied_J28 post postX S bc bs → ∀ (H : Heap) (locs : List Loc) (ls : Array Slot) (cells slots : Nat), p_H D cy S A s H locs → lv_has ls 3 [] → cells + bc ≤ mc ∧ slots + bs ≤ ms → W p l e (rm_X7_tied mc ms) s m [.ref a0, .int a1, .int a2].toArray below meth c H locs cells slots (vx_MQ below (va_Qi post (p_Post D cy A) A) (p_XC D cy A postX) [.ref a0, .int a1, .int a2].toArray s mc ms A) (F0 m 28 ls []) := by
      intro S bc bs hf H locs ls cells slots hH hl hB
      exact q_throw X hH hl hB rfl rfl hst (hGE _ _ _ X.2.2.2.2) hf tw_1134 tw_113 (text := "these are not two sets of households apart") (List.mem_of_getElem? (i := 8) rfl) xa_IllegalArgumentException xg_IllegalArgumentException (by decide +kernel) (by decide +kernel) dX7_tied_28 dX7_tied_31 dX7_tied_32 dX7_tied_34 dX7_tied_37 htab ⟨Nat.le_of_ble_eq_true rfl, Nat.le_of_ble_eq_true rfl⟩ (Nat.le_of_ble_eq_true rfl) hlk
    refine lv_aload_n hx hb dX7_tied_0 rfl (lv_at hl 0 rfl) ?_
    refine q_getR (T := TX7) (N := 12) X hH hf iw_X7 rfl (by decide) tw_319 (fun _ h => h) dX7_tied_1 (fun v1 hf => ?_)
    refine lv_iload_n hx hb dX7_tied_4 rfl (lv_at hl 1 rfl) ?_
    obtain ⟨hb1, hb2, hf⟩ := hf
    refine q_backI0 X hH (q_runV [.int a1] [] X hH hl (c_X6_hasAll l D cy G X.2.2.2.1 S v1 a1 _ _ hf) mf_X6_hasAll mv_X6_hasAll tw_1144 ⟨Nat.le_of_ble_eq_true rfl, Nat.le_of_ble_eq_true rfl⟩ hb1 hb2 (T := TX6) (N := 6) rfl rfl (Nat.le_of_ble_eq_true rfl) dX7_tied_5 ⟨Nat.le_trans (Nat.le_add_right _ _) hB.1, Nat.le_trans (Nat.le_add_right _ _) hB.2⟩) (fun v3 S2 hf H locs hH => ?_)
    refine lv_if_eq (tgt := 28) hx hb dX7_tied_8 (by decide) (fun c4 => ?_) (fun c4 => ?_)
    · have hf := (if_pos c4).mp hf
      exact hJ28 S2 bc bs hf H locs ls cells slots hH (lv_sub hl [] rfl) hB
    · have hf := (if_neg c4).mp hf
      refine lv_aload_n hx hb dX7_tied_11 rfl (lv_at hl 0 rfl) ?_
      refine q_getR (T := TX7) (N := 12) X hH hf iw_X7 rfl (by decide) tw_319 (fun _ h => h) dX7_tied_12 (fun v5 hf => ?_)
      refine lv_iload_n hx hb dX7_tied_15 rfl (lv_at hl 2 rfl) ?_
      obtain ⟨hb1, hb2, hf⟩ := hf
      refine q_backI0 X hH (q_runV [.int a2] [] X hH hl (c_X6_hasAll l D cy G X.2.2.2.1 S2 v5 a2 _ _ hf) mf_X6_hasAll mv_X6_hasAll tw_1144 ⟨Nat.le_of_ble_eq_true rfl, Nat.le_of_ble_eq_true rfl⟩ hb1 hb2 (T := TX6) (N := 6) rfl rfl (Nat.le_of_ble_eq_true rfl) dX7_tied_16 ⟨Nat.le_trans (Nat.le_add_right _ _) hB.1, Nat.le_trans (Nat.le_add_right _ _) hB.2⟩) (fun v7 S6 hf H locs hH => ?_)
      refine lv_if_eq (tgt := 28) hx hb dX7_tied_19 (by decide) (fun c8 => ?_) (fun c8 => ?_)
      · have hf := (if_pos c8).mp hf
        exact hJ28 S6 bc bs hf H locs ls cells slots hH (lv_sub hl [] rfl) hB
      · have hf := (if_neg c8).mp hf
        refine lv_iload_n hx hb dX7_tied_22 rfl (lv_at hl 1 rfl) ?_
        refine lv_iload_n hx hb dX7_tied_23 rfl (lv_at hl 2 rfl) ?_
        refine lv_iand hx hb dX7_tied_24 ?_
        refine lv_if_eq (tgt := 38) hx hb dX7_tied_25 (by decide) (fun c9 => ?_) (fun c9 => ?_)
        · have hf := (if_pos c9).mp hf
          refine lv_aload_n hx hb dX7_tied_38 rfl (lv_at hl 0 rfl) ?_
          refine q_getR (T := TX7) (N := 12) X hH hf iw_X7 rfl (by decide) tw_319 (fun _ h => h) dX7_tied_39 (fun v10 hf => ?_)
          refine lv_iload_n hx hb dX7_tied_42 rfl (lv_at hl 1 rfl) ?_
          refine lv_iload_n hx hb dX7_tied_43 rfl (lv_at hl 2 rfl) ?_
          obtain ⟨hb1, hb2, hf⟩ := hf
          refine q_backI0 X hH (q_runV [.int a1, .int a2] [] X hH hl (c_X6_tieOfSets l D cy G X.2.2.2.1 S6 v10 a1 a2 _ _ hf) mf_X6_tieOfSets mv_X6_tieOfSets tw_1149 ⟨Nat.le_of_ble_eq_true rfl, Nat.le_of_ble_eq_true rfl⟩ hb1 hb2 (T := TX6) (N := 6) rfl rfl (Nat.le_of_ble_eq_true rfl) dX7_tied_44 ⟨Nat.le_trans (Nat.le_add_right _ _) hB.1, Nat.le_trans (Nat.le_add_right _ _) hB.2⟩) (fun v12 S11 hf H locs hH => ?_)
          exact vx_ret (q_retI X hH hr hlk hf (Nat.le_trans (Nat.le_add_right _ _) hB.1) (Nat.le_trans (Nat.le_add_right _ _) hB.2) dX7_tied_47)
        · have hf := (if_neg c9).mp hf
          exact hJ28 S6 bc bs hf H locs ls cells slots hH (lv_sub hl [] rfl) hB
  exact main s.heap [] ls 0 0 mc ms hf hH hl ⟨by omega, by omega⟩
-- X7_feud
def f_X7_feud (S : PS) (a0 : Nat) (post : Int32 → PS → Prop) : Prop :=
  gR S a0 11 0 fun v1 => (
  isO S v1 10 (
  f_X6_feudByBonds S v1 fun v3 S2 => (
  post v3 S2)))
abbrev rm_X7_feud : Room := { frames := 3, cells := 0, slots := 0, locals := 66 }
set_option maxHeartbeats 4000000 in
set_option maxRecDepth 100000 in
theorem c_X7_feud (l : Launch) (D : va_G) (cy : Nat → ClassId) (G : p_GT) (hG : p_ok G) (S : PS) (a0 : Nat) (post : Int32 → PS → Prop) (sz : Nat) (hf : f_X7_feud S a0 post) : p_Mi l D cy G S sz yX7_feud (Cond.code yX7_feud cX7_feud 1 (some .int) :: wG) rm_X7_feud [.ref a0] 0 0 post := by
  refine q_start hG (Qc := fun A => va_Qi post (p_Post D cy A) A) mf_X7_feud (Nat.le_of_ble_eq_true rfl) (own := RX7) rfl ?_
  intro p e s m below meth c A X hr hlk hnm ls hl hH
  have hx := X.1.1
  have hb := X.1.2.1
  replace hl : lv_has ls 1 [(0, .ref a0)] := hl
  obtain ⟨H, hHe⟩ : ∃ H, H = s.heap := ⟨_, rfl⟩
  obtain ⟨locs, hlo⟩ : ∃ locs : List Loc, locs = [] := ⟨_, rfl⟩
  rw [← hHe, ← hlo] at hH
  show W p l e rm_X7_feud s m [.ref a0].toArray below meth c s.heap [] 0 0 _ _
  rw [← hHe, ← hlo]
  refine lv_aload_n hx hb dX7_feud_0 rfl (lv_at hl 0 rfl) ?_
  refine q_getR (T := TX7) (N := 12) X hH hf iw_X7 rfl (by decide) tw_319 (fun _ h => h) dX7_feud_1 (fun v1 hf => ?_)
  obtain ⟨hb1, hb2, hf⟩ := hf
  refine q_backI0 X hH (q_runV [] [] X hH hl (c_X6_feudByBonds l D cy G X.2.2.2.1 S v1 _ _ hf) mf_X6_feudByBonds mv_X6_feudByBonds tw_360 ⟨Nat.le_of_ble_eq_true rfl, Nat.le_of_ble_eq_true rfl⟩ hb1 hb2 (T := TX6) (N := 6) rfl rfl (Nat.le_of_ble_eq_true rfl) dX7_feud_4 ⟨Nat.le_of_ble_eq_true rfl, Nat.le_of_ble_eq_true rfl⟩) (fun v3 S2 hf H locs hH => ?_)
  exact q_retI X hH hr hlk hf (Nat.zero_le _) (Nat.zero_le _) dX7_feud_7
-- X7_feudAgain
def f_X7_feudAgain (S : PS) (a0 : Nat) (post : Int32 → PS → Prop) : Prop :=
  gR S a0 11 0 fun v1 => (
  isO S v1 10 (
  f_X6_feudByHalves S v1 fun v3 S2 => (
  post v3 S2)))
abbrev rm_X7_feudAgain : Room := { frames := 5, cells := 0, slots := 0, locals := 106 }
set_option maxHeartbeats 4000000 in
set_option maxRecDepth 100000 in
theorem c_X7_feudAgain (l : Launch) (D : va_G) (cy : Nat → ClassId) (G : p_GT) (hG : p_ok G) (S : PS) (a0 : Nat) (post : Int32 → PS → Prop) (sz : Nat) (hf : f_X7_feudAgain S a0 post) : p_Mi l D cy G S sz yX7_feudAgain (Cond.code yX7_feudAgain cX7_feudAgain 1 (some .int) :: wG) rm_X7_feudAgain [.ref a0] 0 0 post := by
  refine q_start hG (Qc := fun A => va_Qi post (p_Post D cy A) A) mf_X7_feudAgain (Nat.le_of_ble_eq_true rfl) (own := RX7) rfl ?_
  intro p e s m below meth c A X hr hlk hnm ls hl hH
  have hx := X.1.1
  have hb := X.1.2.1
  replace hl : lv_has ls 1 [(0, .ref a0)] := hl
  obtain ⟨H, hHe⟩ : ∃ H, H = s.heap := ⟨_, rfl⟩
  obtain ⟨locs, hlo⟩ : ∃ locs : List Loc, locs = [] := ⟨_, rfl⟩
  rw [← hHe, ← hlo] at hH
  show W p l e rm_X7_feudAgain s m [.ref a0].toArray below meth c s.heap [] 0 0 _ _
  rw [← hHe, ← hlo]
  refine lv_aload_n hx hb dX7_feudAgain_0 rfl (lv_at hl 0 rfl) ?_
  refine q_getR (T := TX7) (N := 12) X hH hf iw_X7 rfl (by decide) tw_319 (fun _ h => h) dX7_feudAgain_1 (fun v1 hf => ?_)
  obtain ⟨hb1, hb2, hf⟩ := hf
  refine q_backI0 X hH (q_runV [] [] X hH hl (c_X6_feudByHalves l D cy G X.2.2.2.1 S v1 _ _ hf) mf_X6_feudByHalves mv_X6_feudByHalves tw_383 ⟨Nat.le_of_ble_eq_true rfl, Nat.le_of_ble_eq_true rfl⟩ hb1 hb2 (T := TX6) (N := 6) rfl rfl (Nat.le_of_ble_eq_true rfl) dX7_feudAgain_4 ⟨Nat.le_of_ble_eq_true rfl, Nat.le_of_ble_eq_true rfl⟩) (fun v3 S2 hf H locs hH => ?_)
  exact q_retI X hH hr hlk hf (Nat.zero_le _) (Nat.zero_le _) dX7_feudAgain_7
-- X7_bestMove
def f_X7_bestMove_J56 (post : Int32 → PS → Prop) (postX : String → PS → Prop) (g24 : PS → Nat → Nat → Nat → Int32 → Int32 → Prop) (S : PS) (bc bs : Nat) (l0 : Nat) (l1 : Int32) (l2 : Int32) : Prop :=
  g24 S bc bs l0 l1 (l2 + 1)
def f_X7_bestMove_L24 (post : Int32 → PS → Prop) (postX : String → PS → Prop) : Nat → PS → Nat → Nat → Nat → Int32 → Int32 → Prop
  | 0, _, _, _, _, _, _ => False
  | n + 1, S, bc, bs, l0, l1, l2 =>
  gR S l0 11 0 fun v1 => (
  gI S v1 10 1 fun v2 => (
  if v2 ≤ l2 then
    post l1 S
  else
    gR S l0 11 0 fun v4 => (
    isO S v4 10 (
    f_X6_feudAfterMove S v4 l2 fun v6 S5 => (
    gR S5 l0 11 0 fun v7 => (
    isO S5 v7 10 (
    f_X6_feudAfterMove S5 v7 l1 fun v9 S8 => (
    if v9 ≤ v6 then
      f_X7_bestMove_J56 post postX (f_X7_bestMove_L24 post postX n) S8 bc bs l0 l1 l2
    else
      f_X7_bestMove_J56 post postX (f_X7_bestMove_L24 post postX n) S8 bc bs l0 l2 l2))))))))
def f_X7_bestMove (S : PS) (a0 : Nat) (bc bs : Nat) (post : Int32 → PS → Prop) (postX : String → PS → Prop) : Prop :=
  gR S a0 11 0 fun v1 => (
  gI S v1 10 1 fun v2 => (
  if v2 = 0 then
    tX S "java/util/NoSuchElementException" bc bs postX
  else
    f_X7_bestMove_L24 post postX 4096 S bc bs a0 0 1))
abbrev rm_X7_bestMove (mc ms : Nat) : Room := { frames := 6, cells := mc, slots := ms, locals := 105 }
set_option maxHeartbeats 4000000 in
set_option maxRecDepth 100000 in
theorem c_X7_bestMove (l : Launch) (D : va_G) (cy : Nat → ClassId) (G : p_GT) (hG : p_ok G) (hst : l.stackTraces = false) (hGE : ∀ (A : Nat → Prop) (U : State) (H : Heap), G A U H → p_Ex A U H) (S : PS) (a0 : Nat) (mc ms : Nat) (post : Int32 → PS → Prop) (postX : String → PS → Prop) (sz : Nat) (hf : f_X7_bestMove S a0 mc ms post postX) : p_Xi l D cy G S sz yX7_bestMove (Cond.code yX7_bestMove cX7_bestMove 3 (some .int) :: wG) (rm_X7_bestMove mc ms) [.ref a0] mc ms post postX := by
  refine q_startX hG (Qc := fun A => va_Qi post (p_Post D cy A) A) (XC := fun A => p_XC D cy A postX) mf_X7_bestMove (Nat.le_of_ble_eq_true rfl) (own := RX7) rfl ?_
  intro p e s m below meth c A X hr hlk hnm htab ls hl hH
  have hx := X.1.1
  have hb := X.1.2.1
  replace hl : lv_has ls 3 [(0, .ref a0)] := hl
  have main : ∀ (H : Heap) (locs : List Loc) (ls : Array Slot) (cells slots bc bs : Nat), f_X7_bestMove S a0 bc bs post postX → p_H D cy S A s H locs → lv_has ls 3 [(0, .ref a0)] → cells + bc ≤ mc ∧ slots + bs ≤ ms → W p l e (rm_X7_bestMove mc ms) s m [.ref a0].toArray below meth c H locs cells slots (vx_MQ below (va_Qi post (p_Post D cy A) A) (p_XC D cy A postX) [.ref a0].toArray s mc ms A) (F0 m 0 ls []) := by
    intro H locs ls cells slots bc bs hf hH hl hB
    have hL24 : ∀ (n24 : Nat) (S : PS) (bc bs : Nat) (l0 : Nat) (l1 : Int32) (l2 : Int32), f_X7_bestMove_L24 post postX n24 S bc bs l0 l1 l2 → ∀ (H : Heap) (locs : List Loc) (ls : Array Slot) (cells slots : Nat), p_H D cy S A s H locs → lv_has ls 3 [(0, .ref l0), (1, .int l1), (2, .int l2)] → cells + bc ≤ mc ∧ slots + bs ≤ ms → W p l e (rm_X7_bestMove mc ms) s m [.ref a0].toArray below meth c H locs cells slots (vx_MQ below (va_Qi post (p_Post D cy A) A) (p_XC D cy A postX) [.ref a0].toArray s mc ms A) (F0 m 24 ls []) := by
      intro n24
      induction n24 with
      | zero => intro S bc bs l0 l1 l2 hf; exact hf.elim
      | succ n24 ih24 =>
        intro S bc bs l0 l1 l2 hf H locs ls cells slots hH hl hB
        have hJ56 : ∀ (S : PS) (bc bs : Nat) (l0 : Nat) (l1 : Int32) (l2 : Int32), f_X7_bestMove_J56 post postX (f_X7_bestMove_L24 post postX n24) S bc bs l0 l1 l2 → ∀ (H : Heap) (locs : List Loc) (ls : Array Slot) (cells slots : Nat), p_H D cy S A s H locs → lv_has ls 3 [(0, .ref l0), (1, .int l1), (2, .int l2)] → cells + bc ≤ mc ∧ slots + bs ≤ ms → W p l e (rm_X7_bestMove mc ms) s m [.ref a0].toArray below meth c H locs cells slots (vx_MQ below (va_Qi post (p_Post D cy A) A) (p_XC D cy A postX) [.ref a0].toArray s mc ms A) (F0 m 56 ls []) := by
          intro S bc bs l0 l1 l2 hf H locs ls cells slots hH hl hB
          refine lv_iinc (v := l2 + 1) (lv' := [(2, .int (l2 + 1)), (0, .ref l0), (1, .int l1)]) hx hb dX7_bestMove_56 hl (k := 2) rfl rfl (by decide) rfl (fun ls hl => ?_)
          refine lv_goto (tgt := 24) hx hb dX7_bestMove_59 (by decide) ?_
          exact ih24 S bc bs l0 l1 (l2 + 1) hf H locs ls cells slots hH (lv_sub hl [1, 2, 0] rfl) hB
        refine lv_iload_n hx hb dX7_bestMove_24 rfl (lv_at hl 2 rfl) ?_
        refine lv_aload_n hx hb dX7_bestMove_25 rfl (lv_at hl 0 rfl) ?_
        refine q_getR (T := TX7) (N := 12) X hH hf iw_X7 rfl (by decide) tw_319 (fun _ h => h) dX7_bestMove_26 (fun v1 hf => ?_)
        refine q_getIN (T := TX6) (N := 6) X hH hf iw_X6 rfl (by decide) (List.mem_of_getElem? (i := 0) rfl) (fun _ h => h) dX7_bestMove_29 (fun v2 hf => ?_)
        refine lv_icmp_ge (tgt := 62) hx hb dX7_bestMove_32 (by decide) (fun c3 => ?_) (fun c3 => ?_)
        · have hf := (if_pos c3).mp hf
          refine lv_iload_n hx hb dX7_bestMove_62 rfl (lv_at hl 1 rfl) ?_
          exact vx_ret (q_retI X hH hr hlk hf (Nat.le_trans (Nat.le_add_right _ _) hB.1) (Nat.le_trans (Nat.le_add_right _ _) hB.2) dX7_bestMove_63)
        · have hf := (if_neg c3).mp hf
          refine lv_aload_n hx hb dX7_bestMove_35 rfl (lv_at hl 0 rfl) ?_
          refine q_getR (T := TX7) (N := 12) X hH hf iw_X7 rfl (by decide) tw_319 (fun _ h => h) dX7_bestMove_36 (fun v4 hf => ?_)
          refine lv_iload_n hx hb dX7_bestMove_39 rfl (lv_at hl 2 rfl) ?_
          obtain ⟨hb1, hb2, hf⟩ := hf
          refine q_backI0 X hH (q_runV [.int l2] [] X hH hl (c_X6_feudAfterMove l D cy G X.2.2.2.1 S v4 l2 _ _ hf) mf_X6_feudAfterMove mv_X6_feudAfterMove tw_1257 ⟨Nat.le_of_ble_eq_true rfl, Nat.le_of_ble_eq_true rfl⟩ hb1 hb2 (T := TX6) (N := 6) rfl rfl (Nat.le_of_ble_eq_true rfl) dX7_bestMove_40 ⟨Nat.le_trans (Nat.le_add_right _ _) hB.1, Nat.le_trans (Nat.le_add_right _ _) hB.2⟩) (fun v6 S5 hf H locs hH => ?_)
          refine lv_aload_n hx hb dX7_bestMove_43 rfl (lv_at hl 0 rfl) ?_
          refine q_getR (T := TX7) (N := 12) X hH hf iw_X7 rfl (by decide) tw_319 (fun _ h => h) dX7_bestMove_44 (fun v7 hf => ?_)
          refine lv_iload_n hx hb dX7_bestMove_47 rfl (lv_at hl 1 rfl) ?_
          obtain ⟨hb1, hb2, hf⟩ := hf
          refine q_backI0 X hH (q_runV [.int l1] [.int v6] X hH hl (c_X6_feudAfterMove l D cy G X.2.2.2.1 S5 v7 l1 _ _ hf) mf_X6_feudAfterMove mv_X6_feudAfterMove tw_1257 ⟨Nat.le_of_ble_eq_true rfl, Nat.le_of_ble_eq_true rfl⟩ hb1 hb2 (T := TX6) (N := 6) rfl rfl (Nat.le_of_ble_eq_true rfl) dX7_bestMove_48 ⟨Nat.le_trans (Nat.le_add_right _ _) hB.1, Nat.le_trans (Nat.le_add_right _ _) hB.2⟩) (fun v9 S8 hf H locs hH => ?_)
          refine lv_icmp_ge (tgt := 56) hx hb dX7_bestMove_51 (by decide) (fun c10 => ?_) (fun c10 => ?_)
          · have hf := (if_pos c10).mp hf
            exact hJ56 S8 bc bs l0 l1 l2 hf H locs ls cells slots hH hl hB
          · have hf := (if_neg c10).mp hf
            refine lv_iload_n hx hb dX7_bestMove_54 rfl (lv_at hl 2 rfl) ?_
            refine lv_istore_n (lv' := [(1, .int l2), (0, .ref l0), (2, .int l2)]) hx hb dX7_bestMove_55 rfl hl (by decide) rfl (fun ls hl => ?_)
            exact hJ56 S8 bc bs l0 l2 l2 hf H locs ls cells slots hH (lv_sub hl [1, 0, 2] rfl) hB
    refine lv_aload_n hx hb dX7_bestMove_0 rfl (lv_at hl 0 rfl) ?_
    refine q_getR (T := TX7) (N := 12) X hH hf iw_X7 rfl (by decide) tw_319 (fun _ h => h) dX7_bestMove_1 (fun v1 hf => ?_)
    refine q_getIN (T := TX6) (N := 6) X hH hf iw_X6 rfl (by decide) (List.mem_of_getElem? (i := 0) rfl) (fun _ h => h) dX7_bestMove_4 (fun v2 hf => ?_)
    refine lv_if_ne (tgt := 20) hx hb dX7_bestMove_7 (by decide) (fun c3 => ?_) (fun c3 => ?_)
    · have hf := (if_neg c3).mp hf
      refine lv_iconst (v := 0) hx hb dX7_bestMove_20 (by decide) ?_
      refine lv_istore_n (lv' := [(1, .int 0), (0, .ref a0)]) hx hb dX7_bestMove_21 rfl hl (by decide) rfl (fun ls hl => ?_)
      refine lv_iconst (v := 1) hx hb dX7_bestMove_22 (by decide) ?_
      refine lv_istore_n (lv' := [(2, .int 1), (1, .int 0), (0, .ref a0)]) hx hb dX7_bestMove_23 rfl hl (by decide) rfl (fun ls hl => ?_)
      exact hL24 4096 S bc bs a0 0 1 hf H locs ls cells slots hH (lv_sub hl [2, 1, 0] rfl) hB
    · have hf := (if_pos c3).mp hf
      exact q_throwX (by decide +kernel) (by decide +kernel) (by decide +kernel) (by decide +kernel) X hH hl hB rfl rfl hst (hGE _ _ _ X.2.2.2.2) hf tw_1177 tw_114 (text := "there are no households") (List.mem_of_getElem? (i := 13) rfl) xa_NoSuchElementException xg_NoSuchElementException (by decide +kernel) (by decide +kernel) dX7_bestMove_10 dX7_bestMove_13 dX7_bestMove_14 dX7_bestMove_16 dX7_bestMove_19 htab ⟨Nat.le_of_ble_eq_true rfl, Nat.le_of_ble_eq_true rfl⟩ (Nat.le_of_ble_eq_true rfl) hlk
  exact main s.heap [] ls 0 0 mc ms hf hH hl ⟨by omega, by omega⟩
