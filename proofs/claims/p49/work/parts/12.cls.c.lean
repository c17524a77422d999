-- X3_strongestOf
def f_X3_strongestOf_J45 (post : Int32 → PS → Prop) (g7 : PS → Nat → Int32 → Int32 → Int32 → Int32 → Prop) (S : PS) (l0 : Nat) (l1 : Int32) (l2 : Int32) (l3 : Int32) (l4 : Int32) : Prop :=
  g7 S l0 l1 l2 l3 (l4 + 1)
def f_X3_strongestOf_L7 (post : Int32 → PS → Prop) : Nat → PS → Nat → Int32 → Int32 → Int32 → Int32 → Prop
  | 0, _, _, _, _, _, _ => False
  | n + 1, S, l0, l1, l2, l3, l4 =>
  if 9 ≤ l4 then
    post l2 S
  else
    f_X7_isIn S l1 l4 fun v3 S2 => (
    if v3 = 0 then
      f_X3_strongestOf_J45 post (f_X3_strongestOf_L7 post n) S2 l0 l1 l2 l3 l4
    else
      gR S2 l0 7 4 fun v5 => (
      aI S2 v5 0 l4 fun v6 => (
      if v6 ≤ l3 then
        f_X3_strongestOf_J45 post (f_X3_strongestOf_L7 post n) S2 l0 l1 l2 l3 l4
      else
        gR S2 l0 7 4 fun v8 => (
        aI S2 v8 0 l4 fun v9 => (
        f_X3_strongestOf_J45 post (f_X3_strongestOf_L7 post n) S2 l0 l1 l4 v9 l4)))))
def f_X3_strongestOf (S : PS) (a0 : Nat) (a1 : Int32) (post : Int32 → PS → Prop) : Prop :=
  f_X3_strongestOf_L7 post 4096 S a0 a1 0 (-1) 0
abbrev rm_X3_strongestOf : Room := { frames := 1, cells := 0, slots := 0, locals := 21 }
set_option maxHeartbeats 4000000 in
set_option maxRecDepth 100000 in
theorem c_X3_strongestOf (l : Launch) (D : va_G) (cy : Nat → ClassId) (G : p_GT) (hG : p_ok G) (S : PS) (a0 : Nat) (a1 : Int32) (post : Int32 → PS → Prop) (sz : Nat) (hf : f_X3_strongestOf S a0 a1 post) : p_Mi l D cy G S sz yX3_strongestOf (Cond.code yX3_strongestOf cX3_strongestOf 5 (some .int) :: wG) rm_X3_strongestOf [.ref a0, .int a1] 0 0 post := by
  refine q_start hG (Qc := fun A => va_Qi post (p_Post D cy A) A) mf_X3_strongestOf (Nat.le_of_ble_eq_true rfl) (own := RX3) rfl ?_
  intro p e s m below meth c A X hr hlk hnm ls hl hH
  have hx := X.1.1
  have hb := X.1.2.1
  replace hl : lv_has ls 5 [(0, .ref a0), (1, .int a1)] := hl
  obtain ⟨H, hHe⟩ : ∃ H, H = s.heap := ⟨_, rfl⟩
  obtain ⟨locs, hlo⟩ : ∃ locs : List Loc, locs = [] := ⟨_, rfl⟩
  rw [← hHe, ← hlo] at hH
  show W p l e rm_X3_strongestOf s m [.ref a0, .int a1].toArray below meth c s.heap [] 0 0 _ _
  rw [← hHe, ← hlo]
  have hL7 : ∀ (n7 : Nat) (S : PS) (l0 : Nat) (l1 : Int32) (l2 : Int32) (l3 : Int32) (l4 : Int32), f_X3_strongestOf_L7 post n7 S l0 l1 l2 l3 l4 → ∀ (H : Heap) (locs : List Loc) (ls : Array Slot), p_H D cy S A s H locs → lv_has ls 5 [(0, .ref l0), (1, .int l1), (2, .int l2), (3, .int l3), (4, .int l4)] → W p l e rm_X3_strongestOf s m [.ref a0, .int a1].toArray below meth c H locs 0 0 (MQ below (va_Qi post (p_Post D cy A) A) [.ref a0, .int a1].toArray s 0 0 A) (F0 m 7 ls []) := by
    intro n7
    induction n7 with
    | zero => intro S l0 l1 l2 l3 l4 hf; exact hf.elim
    | succ n7 ih7 =>
      intro S l0 l1 l2 l3 l4 hf H locs ls hH hl
      have hJ45 : ∀ (S : PS) (l0 : Nat) (l1 : Int32) (l2 : Int32) (l3 : Int32) (l4 : Int32), f_X3_strongestOf_J45 post (f_X3_strongestOf_L7 post n7) S l0 l1 l2 l3 l4 → ∀ (H : Heap) (locs : List Loc) (ls : Array Slot), p_H D cy S A s H locs → lv_has ls 5 [(0, .ref l0), (1, .int l1), (2, .int l2), (3, .int l3), (4, .int l4)] → W p l e rm_X3_strongestOf s m [.ref a0, .int a1].toArray below meth c H locs 0 0 (MQ below (va_Qi post (p_Post D cy A) A) [.ref a0, .int a1].toArray s 0 0 A) (F0 m 45 ls []) := by
        intro S l0 l1 l2 l3 l4 hf H locs ls hH hl
        refine lv_iinc (v := l4 + 1) (lv' := [(4, .int (l4 + 1)), (0, .ref l0), (1, .int l1), (2, .int l2), (3, .int l3)]) hx hb dX3_strongestOf_45 hl (k := 4) rfl rfl (by decide) rfl (fun ls hl => ?_)
        refine lv_goto (tgt := 7) hx hb dX3_strongestOf_48 (by decide) ?_
        exact ih7 S l0 l1 l2 l3 (l4 + 1) hf H locs ls hH (lv_sub hl [1, 2, 3, 4, 0] rfl)
      refine lv_iload hx hb dX3_strongestOf_7 (lv_at hl 4 rfl) ?_
      refine lv_bipush (v := 9) hx hb dX3_strongestOf_9 (by decide) ?_
      refine lv_icmp_ge (tgt := 51) hx hb dX3_strongestOf_11 (by decide) (fun c1 => ?_) (fun c1 => ?_)
      · have hf := (if_pos c1).mp hf
        refine lv_iload_n hx hb dX3_strongestOf_51 rfl (lv_at hl 2 rfl) ?_
        exact q_retI X hH hr hlk hf (Nat.zero_le _) (Nat.zero_le _) dX3_strongestOf_52
      · have hf := (if_neg c1).mp hf
        refine lv_iload_n hx hb dX3_strongestOf_14 rfl (lv_at hl 1 rfl) ?_
        refine lv_iload hx hb dX3_strongestOf_15 (lv_at hl 4 rfl) ?_
        refine q_backI0 X hH (q_runSN [.int l1, .int l4] [] X hH hl (c_X7_isIn l D cy G X.2.2.2.1 S l1 l4 _ _ hf) mf_X7_isIn tw_372 (List.mem_of_getElem? (i := 18) rfl) ⟨Nat.le_of_ble_eq_true rfl, Nat.le_of_ble_eq_true rfl⟩ rfl (Nat.le_of_ble_eq_true rfl) dX3_strongestOf_17 ⟨Nat.le_of_ble_eq_true rfl, Nat.le_of_ble_eq_true rfl⟩) (fun v3 S2 hf H locs hH => ?_)
        refine lv_if_eq (tgt := 45) hx hb dX3_strongestOf_20 (by decide) (fun c4 => ?_) (fun c4 => ?_)
        · have hf := (if_pos c4).mp hf
          exact hJ45 S2 l0 l1 l2 l3 l4 hf H locs ls hH hl
        · have hf := (if_neg c4).mp hf
          refine lv_aload_n hx hb dX3_strongestOf_23 rfl (lv_at hl 0 rfl) ?_
          refine q_getR (T := TX3) (N := 6) X hH hf iw_X3 rfl (by decide) tw_127 (fun _ h => h) dX3_strongestOf_24 (fun v5 hf => ?_)
          refine lv_iload hx hb dX3_strongestOf_27 (lv_at hl 4 rfl) ?_
          refine q_iald X hH hf dX3_strongestOf_29 (fun v6 hf => ?_)
          refine lv_iload_n hx hb dX3_strongestOf_30 rfl (lv_at hl 3 rfl) ?_
          refine lv_icmp_le (tgt := 45) hx hb dX3_strongestOf_31 (by decide) (fun c7 => ?_) (fun c7 => ?_)
          · have hf := (if_pos c7).mp hf
            exact hJ45 S2 l0 l1 l2 l3 l4 hf H locs ls hH hl
          · have hf := (if_neg c7).mp hf
            refine lv_aload_n hx hb dX3_strongestOf_34 rfl (lv_at hl 0 rfl) ?_
            refine q_getR (T := TX3) (N := 6) X hH hf iw_X3 rfl (by decide) tw_127 (fun _ h => h) dX3_strongestOf_35 (fun v8 hf => ?_)
            refine lv_iload hx hb dX3_strongestOf_38 (lv_at hl 4 rfl) ?_
            refine q_iald X hH hf dX3_strongestOf_40 (fun v9 hf => ?_)
            refine lv_istore_n (lv' := [(3, .int v9), (0, .ref l0), (1, .int l1), (2, .int l2), (4, .int l4)]) hx hb dX3_strongestOf_41 rfl hl (by decide) rfl (fun ls hl => ?_)
            refine lv_iload hx hb dX3_strongestOf_42 (lv_at hl 4 rfl) ?_
            refine lv_istore_n (lv' := [(2, .int l4), (3, .int v9), (0, .ref l0), (1, .int l1), (4, .int l4)]) hx hb dX3_strongestOf_44 rfl hl (by decide) rfl (fun ls hl => ?_)
            exact hJ45 S2 l0 l1 l4 v9 l4 hf H locs ls hH (lv_sub hl [2, 3, 0, 1, 4] rfl)
  refine lv_iconst (v := 0) hx hb dX3_strongestOf_0 (by decide) ?_
  refine lv_istore_n (lv' := [(2, .int 0), (0, .ref a0), (1, .int a1)]) hx hb dX3_strongestOf_1 rfl hl (by decide) rfl (fun ls hl => ?_)
  refine lv_iconst (v := (-1)) hx hb dX3_strongestOf_2 (by decide) ?_
  refine lv_istore_n (lv' := [(3, .int ((-1))), (2, .int 0), (0, .ref a0), (1, .int a1)]) hx hb dX3_strongestOf_3 rfl hl (by decide) rfl (fun ls hl => ?_)
  refine lv_iconst (v := 0) hx hb dX3_strongestOf_4 (by decide) ?_
  refine lv_istore (lv' := [(4, .int 0), (3, .int ((-1))), (2, .int 0), (0, .ref a0), (1, .int a1)]) hx hb dX3_strongestOf_5 hl (by decide) rfl (fun ls hl => ?_)
  exact hL7 4096 S a0 a1 0 (-1) 0 hf H locs ls hH (lv_sub hl [3, 4, 2, 1, 0] rfl)
-- X3_put
def f_X3_put (S : PS) (a0 : Nat) (a1 : Int32) (a2 : Int32) (a3 : Int32) (post : PS → Prop) : Prop :=
  isO S a0 7 (
  f_X3_hasPlace S a0 a1 a2 fun v2 S1 => (
  if v2 = 0 then
    post S1
  else
    gR S1 a0 7 0 fun v4 => (
    gR S1 a0 7 3 fun v5 => (
    aI S1 v5 0 a3 fun v6 => (
    sI S1 v4 0 ((a1 * 9) + a2) v6 fun S7 => (
    gR S7 a0 7 1 fun v8 => (
    gR S7 a0 7 4 fun v9 => (
    aI S7 v9 0 a3 fun v10 => (
    sI S7 v8 0 ((a1 * 9) + a2) v10 fun S11 => (
    post S11))))))))))
abbrev rm_X3_put : Room := { frames := 1, cells := 0, slots := 0, locals := 22 }
set_option maxHeartbeats 4000000 in
set_option maxRecDepth 100000 in
theorem c_X3_put (l : Launch) (D : va_G) (cy : Nat → ClassId) (G : p_GT) (hG : p_ok G) (S : PS) (a0 : Nat) (a1 : Int32) (a2 : Int32) (a3 : Int32) (post : PS → Prop) (sz : Nat) (hf : f_X3_put S a0 a1 a2 a3 post) : p_Mv l D cy G S sz yX3_put (Cond.code yX3_put cX3_put 4 none :: wG) rm_X3_put [.ref a0, .int a1, .int a2, .int a3] 0 0 post := by
  refine q_start hG (Qc := fun A => va_Qv post (p_Post D cy A) A) mf_X3_put (Nat.le_of_ble_eq_true rfl) (own := RX3) rfl ?_
  intro p e s m below meth c A X hr hlk hnm ls hl hH
  have hx := X.1.1
  have hb := X.1.2.1
  replace hl : lv_has ls 4 [(0, .ref a0), (1, .int a1), (2, .int a2), (3, .int a3)] := hl
  obtain ⟨H, hHe⟩ : ∃ H, H = s.heap := ⟨_, rfl⟩
  obtain ⟨locs, hlo⟩ : ∃ locs : List Loc, locs = [] := ⟨_, rfl⟩
  rw [← hHe, ← hlo] at hH
  show W p l e rm_X3_put s m [.ref a0, .int a1, .int a2, .int a3].toArray below meth c s.heap [] 0 0 _ _
  rw [← hHe, ← hlo]
  refine lv_aload_n hx hb dX3_put_0 rfl (lv_at hl 0 rfl) ?_
  refine lv_iload_n hx hb dX3_put_1 rfl (lv_at hl 1 rfl) ?_
  refine lv_iload_n hx hb dX3_put_2 rfl (lv_at hl 2 rfl) ?_
  obtain ⟨hb1, hb2, hf⟩ := hf
  refine q_backI0 X hH (q_runV [.int a1, .int a2] [] X hH hl (c_X3_hasPlace l D cy G X.2.2.2.1 S a0 a1 a2 _ _ hf) mf_X3_hasPlace mv_X3_hasPlace tw_479 ⟨Nat.le_of_ble_eq_true rfl, Nat.le_of_ble_eq_true rfl⟩ hb1 hb2 (T := TX3) (N := 6) rfl rfl (Nat.le_of_ble_eq_true rfl) dX3_put_3 ⟨Nat.le_of_ble_eq_true rfl, Nat.le_of_ble_eq_true rfl⟩) (fun v2 S1 hf H locs hH => ?_)
  refine lv_if_eq (tgt := 43) hx hb dX3_put_6 (by decide) (fun c3 => ?_) (fun c3 => ?_)
  · have hf := (if_pos c3).mp hf
    exact q_retV X hH hr hlk hf (Nat.zero_le _) (Nat.zero_le _) dX3_put_43
  · have hf := (if_neg c3).mp hf
    refine lv_aload_n hx hb dX3_put_9 rfl (lv_at hl 0 rfl) ?_
    refine q_getR (T := TX3) (N := 6) X hH hf iw_X3 rfl (by decide) tw_123 (fun _ h => h) dX3_put_10 (fun v4 hf => ?_)
    refine lv_iload_n hx hb dX3_put_13 rfl (lv_at hl 1 rfl) ?_
    refine lv_bipush (v := 9) hx hb dX3_put_14 (by decide) ?_
    refine lv_imul hx hb dX3_put_16 ?_
    refine lv_iload_n hx hb dX3_put_17 rfl (lv_at hl 2 rfl) ?_
    refine lv_iadd hx hb dX3_put_18 ?_
    refine lv_aload_n hx hb dX3_put_19 rfl (lv_at hl 0 rfl) ?_
    refine q_getR (T := TX3) (N := 6) X hH hf iw_X3 rfl (by decide) tw_126 (fun _ h => h) dX3_put_20 (fun v5 hf => ?_)
    refine lv_iload_n hx hb dX3_put_23 rfl (lv_at hl 3 rfl) ?_
    refine q_iald X hH hf dX3_put_24 (fun v6 hf => ?_)
    refine q_iast X hH hf dX3_put_25 (fun S7 hf H locs hH => ?_)
    refine lv_aload_n hx hb dX3_put_26 rfl (lv_at hl 0 rfl) ?_
    refine q_getR (T := TX3) (N := 6) X hH hf iw_X3 rfl (by decide) tw_124 (fun _ h => h) dX3_put_27 (fun v8 hf => ?_)
    refine lv_iload_n hx hb dX3_put_30 rfl (lv_at hl 1 rfl) ?_
    refine lv_bipush (v := 9) hx hb dX3_put_31 (by decide) ?_
    refine lv_imul hx hb dX3_put_33 ?_
    refine lv_iload_n hx hb dX3_put_34 rfl (lv_at hl 2 rfl) ?_
    refine lv_iadd hx hb dX3_put_35 ?_
    refine lv_aload_n hx hb dX3_put_36 rfl (lv_at hl 0 rfl) ?_
    refine q_getR (T := TX3) (N := 6) X hH hf iw_X3 rfl (by decide) tw_127 (fun _ h => h) dX3_put_37 (fun v9 hf => ?_)
    refine lv_iload_n hx hb dX3_put_40 rfl (lv_at hl 3 rfl) ?_
    refine q_iald X hH hf dX3_put_41 (fun v10 hf => ?_)
    refine q_iast X hH hf dX3_put_42 (fun S11 hf H locs hH => ?_)
    exact q_retV X hH hr hlk hf (Nat.zero_le _) (Nat.zero_le _) dX3_put_43
-- X3_mergeLast
def f_X3_mergeLast_L80 (post : PS → Prop) : Nat → PS → Nat → Int32 → Int32 → Int32 → Prop
  | 0, _, _, _, _, _ => False
  | n + 1, S, l0, l4, l5, l6 =>
  if 9 ≤ l6 then
    post S
  else
    gR S l0 7 2 fun v2 => (
    aI S v2 0 ((l4 * 9) + l6) fun v3 => (
    gR S l0 7 2 fun v4 => (
    aI S v4 0 ((l5 * 9) + l6) fun v5 => (
    gR S l0 7 2 fun v6 => (
    sI S v6 0 ((l4 * 9) + l6) (v3 + v5) fun S7 => (
    gR S7 l0 7 2 fun v8 => (
    sI S7 v8 0 ((l6 * 9) + l4) (v3 + v5) fun S9 => (
    (f_X3_mergeLast_L80 post n) S9 l0 l4 l5 (l6 + 1)))))))))
def f_X3_mergeLast (S : PS) (a0 : Nat) (a1 : Int32) (post : PS → Prop) : Prop :=
  isO S a0 7 (
  f_X3_groupsIn S a0 a1 fun v2 S1 => (
  isO S1 a0 7 (
  f_X3_groupAt S1 a0 a1 (v2 - 1) fun v4 S3 => (
  f_X7_lowestOf S3 v4 fun v6 S5 => (
  isO S5 a0 7 (
  f_X3_groupsIn S5 a0 a1 fun v8 S7 => (
  isO S7 a0 7 (
  f_X3_groupAt S7 a0 a1 (v8 - 2) fun v10 S9 => (
  f_X7_lowestOf S9 v10 fun v12 S11 => (
  if 0 ≤ (if v12 < v6 then v12 else v6) then
    gR S11 a0 7 3 fun v14 => (
    aI S11 v14 0 (if v12 < v6 then v12 else v6) fun v15 => (
    gR S11 a0 7 3 fun v16 => (
    aI S11 v16 0 (if v6 < v12 then v12 else v6) fun v17 => (
    sI S11 v14 0 (if v12 < v6 then v12 else v6) (v15 ||| v17) fun S18 => (
    gR S18 a0 7 3 fun v19 => (
    sI S18 v19 0 (if v6 < v12 then v12 else v6) 0 fun S20 => (
    f_X3_mergeLast_L80 post 4096 S20 a0 (if v12 < v6 then v12 else v6) (if v6 < v12 then v12 else v6) 0)))))))
  else
    post S11))))))))))
abbrev rm_X3_mergeLast : Room := { frames := 2, cells := 0, slots := 0, locals := 44 }
set_option maxHeartbeats 4000000 in
set_option maxRecDepth 100000 in
theorem c_X3_mergeLast (l : Launch) (D : va_G) (cy : Nat → ClassId) (G : p_GT) (hG : p_ok G) (S : PS) (a0 : Nat) (a1 : Int32) (post : PS → Prop) (sz : Nat) (hf : f_X3_mergeLast S a0 a1 post) : p_Mv l D cy G S sz yX3_mergeLast (Cond.code yX3_mergeLast cX3_mergeLast 8 none :: wG) rm_X3_mergeLast [.ref a0, .int a1] 0 0 post := by
  refine q_start hG (Qc := fun A => va_Qv post (p_Post D cy A) A) mf_X3_mergeLast (Nat.le_of_ble_eq_true rfl) (own := RX3) rfl ?_
  intro p e s m below meth c A X hr hlk hnm ls hl hH
  have hx := X.1.1
  have hb := X.1.2.1
  replace hl : lv_has ls 8 [(0, .ref a0), (1, .int a1)] := hl
  obtain ⟨H, hHe⟩ : ∃ H, H = s.heap := ⟨_, rfl⟩
  obtain ⟨locs, hlo⟩ : ∃ locs : List Loc, locs = [] := ⟨_, rfl⟩
  rw [← hHe, ← hlo] at hH
  show W p l e rm_X3_mergeLast s m [.ref a0, .int a1].toArray below meth c s.heap [] 0 0 _ _
  rw [← hHe, ← hlo]
  have hL80 : ∀ (n80 : Nat) (S : PS) (l0 : Nat) (l4 : Int32) (l5 : Int32) (l6 : Int32), f_X3_mergeLast_L80 post n80 S l0 l4 l5 l6 → ∀ (H : Heap) (locs : List Loc) (ls : Array Slot), p_H D cy S A s H locs → lv_has ls 8 [(0, .ref l0), (4, .int l4), (5, .int l5), (6, .int l6)] → W p l e rm_X3_mergeLast s m [.ref a0, .int a1].toArray below meth c H locs 0 0 (MQ below (va_Qv post (p_Post D cy A) A) [.ref a0, .int a1].toArray s 0 0 A) (F0 m 80 ls []) := by
    intro n80
    induction n80 with
    | zero => intro S l0 l4 l5 l6 hf; exact hf.elim
    | succ n80 ih80 =>
      intro S l0 l4 l5 l6 hf H locs ls hH hl
      refine lv_iload hx hb dX3_mergeLast_80 (lv_at hl 3 rfl) ?_
      refine lv_bipush (v := 9) hx hb dX3_mergeLast_82 (by decide) ?_
      refine lv_icmp_ge (tgt := 152) hx hb dX3_mergeLast_84 (by decide) (fun c1 => ?_) (fun c1 => ?_)
      · have hf := (if_pos c1).mp hf
        exact q_retV X hH hr hlk hf (Nat.zero_le _) (Nat.zero_le _) dX3_mergeLast_152
      · have hf := (if_neg c1).mp hf
        refine lv_aload_n hx hb dX3_mergeLast_87 rfl (lv_at hl 0 rfl) ?_
        refine q_getR (T := TX3) (N := 6) X hH hf iw_X3 rfl (by decide) tw_125 (fun _ h => h) dX3_mergeLast_88 (fun v2 hf => ?_)
        refine lv_iload hx hb dX3_mergeLast_91 (lv_at hl 1 rfl) ?_
        refine lv_bipush (v := 9) hx hb dX3_mergeLast_93 (by decide) ?_
        refine lv_imul hx hb dX3_mergeLast_95 ?_
        refine lv_iload hx hb dX3_mergeLast_96 (lv_at hl 3 rfl) ?_
        refine lv_iadd hx hb dX3_mergeLast_98 ?_
        refine q_iald X hH hf dX3_mergeLast_99 (fun v3 hf => ?_)
        refine lv_aload_n hx hb dX3_mergeLast_100 rfl (lv_at hl 0 rfl) ?_
        refine q_getR (T := TX3) (N := 6) X hH hf iw_X3 rfl (by decide) tw_125 (fun _ h => h) dX3_mergeLast_101 (fun v4 hf => ?_)
        refine lv_iload hx hb dX3_mergeLast_104 (lv_at hl 2 rfl) ?_
        refine lv_bipush (v := 9) hx hb dX3_mergeLast_106 (by decide) ?_
        refine lv_imul hx hb dX3_mergeLast_108 ?_
        refine lv_iload hx hb dX3_mergeLast_109 (lv_at hl 3 rfl) ?_
        refine lv_iadd hx hb dX3_mergeLast_111 ?_
        refine q_iald X hH hf dX3_mergeLast_112 (fun v5 hf => ?_)
        refine lv_iadd hx hb dX3_mergeLast_113 ?_
        refine lv_istore (lv' := [(7, .int (v3 + v5)), (0, .ref l0), (4, .int l4), (5, .int l5), (6, .int l6)]) hx hb dX3_mergeLast_114 hl (by decide) rfl (fun ls hl => ?_)
        refine lv_aload_n hx hb dX3_mergeLast_116 rfl (lv_at hl 1 rfl) ?_
        refine q_getR (T := TX3) (N := 6) X hH hf iw_X3 rfl (by decide) tw_125 (fun _ h => h) dX3_mergeLast_117 (fun v6 hf => ?_)
        refine lv_iload hx hb dX3_mergeLast_120 (lv_at hl 2 rfl) ?_
        refine lv_bipush (v := 9) hx hb dX3_mergeLast_122 (by decide) ?_
        refine lv_imul hx hb dX3_mergeLast_124 ?_
        refine lv_iload hx hb dX3_mergeLast_125 (lv_at hl 4 rfl) ?_
        refine lv_iadd hx hb dX3_mergeLast_127 ?_
        refine lv_iload hx hb dX3_mergeLast_128 (lv_at hl 0 rfl) ?_
        refine q_iast X hH hf dX3_mergeLast_130 (fun S7 hf H locs hH => ?_)
        refine lv_aload_n hx hb dX3_mergeLast_131 rfl (lv_at hl 1 rfl) ?_
        refine q_getR (T := TX3) (N := 6) X hH hf iw_X3 rfl (by decide) tw_125 (fun _ h => h) dX3_mergeLast_132 (fun v8 hf => ?_)
        refine lv_iload hx hb dX3_mergeLast_135 (lv_at hl 4 rfl) ?_
        refine lv_bipush (v := 9) hx hb dX3_mergeLast_137 (by decide) ?_
        refine lv_imul hx hb dX3_mergeLast_139 ?_
        refine lv_iload hx hb dX3_mergeLast_140 (lv_at hl 2 rfl) ?_
        refine lv_iadd hx hb dX3_mergeLast_142 ?_
        refine lv_iload hx hb dX3_mergeLast_143 (lv_at hl 0 rfl) ?_
        refine q_iast X hH hf dX3_mergeLast_145 (fun S9 hf H locs hH => ?_)
        refine lv_iinc (v := l6 + 1) (lv' := [(6, .int (l6 + 1)), (7, .int (v3 + v5)), (0, .ref l0), (4, .int l4), (5, .int l5)]) hx hb dX3_mergeLast_146 hl (k := 4) rfl rfl (by decide) rfl (fun ls hl => ?_)
        refine lv_goto (tgt := 80) hx hb dX3_mergeLast_149 (by decide) ?_
        exact ih80 S9 l0 l4 l5 (l6 + 1) hf H locs ls hH (lv_sub hl [2, 3, 4, 0] rfl)
  refine lv_aload_n hx hb dX3_mergeLast_0 rfl (lv_at hl 0 rfl) ?_
  refine lv_iload_n hx hb dX3_mergeLast_1 rfl (lv_at hl 1 rfl) ?_
  refine lv_aload_n hx hb dX3_mergeLast_2 rfl (lv_at hl 0 rfl) ?_
  refine lv_iload_n hx hb dX3_mergeLast_3 rfl (lv_at hl 1 rfl) ?_
  obtain ⟨hb1, hb2, hf⟩ := hf
  refine q_backI0 X hH (q_runV [.int a1] [.int a1, .ref a0] X hH hl (c_X3_groupsIn l D cy G X.2.2.2.1 S a0 a1 _ _ hf) mf_X3_groupsIn mv_X3_groupsIn tw_466 ⟨Nat.le_of_ble_eq_true rfl, Nat.le_of_ble_eq_true rfl⟩ hb1 hb2 (T := TX3) (N := 6) rfl rfl (Nat.le_of_ble_eq_true rfl) dX3_mergeLast_4 ⟨Nat.le_of_ble_eq_true rfl, Nat.le_of_ble_eq_true rfl⟩) (fun v2 S1 hf H locs hH => ?_)
  refine lv_iconst (v := 1) hx hb dX3_mergeLast_7 (by decide) ?_
  refine lv_isub hx hb dX3_mergeLast_8 ?_
  obtain ⟨hb1, hb2, hf⟩ := hf
  refine q_backI0 X hH (q_runV [.int a1, .int (v2 - 1)] [] X hH hl (c_X3_groupAt l D cy G X.2.2.2.1 S1 a0 a1 (v2 - 1) _ _ hf) mf_X3_groupAt mv_X3_groupAt tw_487 ⟨Nat.le_of_ble_eq_true rfl, Nat.le_of_ble_eq_true rfl⟩ hb1 hb2 (T := TX3) (N := 6) rfl rfl (Nat.le_of_ble_eq_true rfl) dX3_mergeLast_9 ⟨Nat.le_of_ble_eq_true rfl, Nat.le_of_ble_eq_true rfl⟩) (fun v4 S3 hf H locs hH => ?_)
  refine q_backI0 X hH (q_runSN [.int v4] [] X hH hl (c_X7_lowestOf l D cy G X.2.2.2.1 S3 v4 _ _ hf) mf_X7_lowestOf tw_492 (List.mem_of_getElem? (i := 19) rfl) ⟨Nat.le_of_ble_eq_true rfl, Nat.le_of_ble_eq_true rfl⟩ rfl (Nat.le_of_ble_eq_true rfl) dX3_mergeLast_12 ⟨Nat.le_of_ble_eq_true rfl, Nat.le_of_ble_eq_true rfl⟩) (fun v6 S5 hf H locs hH => ?_)
  refine lv_istore_n (lv' := [(2, .int v6), (0, .ref a0), (1, .int a1)]) hx hb dX3_mergeLast_15 rfl hl (by decide) rfl (fun ls hl => ?_)
  refine lv_aload_n hx hb dX3_mergeLast_16 rfl (lv_at hl 1 rfl) ?_
  refine lv_iload_n hx hb dX3_mergeLast_17 rfl (lv_at hl 2 rfl) ?_
  refine lv_aload_n hx hb dX3_mergeLast_18 rfl (lv_at hl 1 rfl) ?_
  refine lv_iload_n hx hb dX3_mergeLast_19 rfl (lv_at hl 2 rfl) ?_
  obtain ⟨hb1, hb2, hf⟩ := hf
  refine q_backI0 X hH (q_runV [.int a1] [.int a1, .ref a0] X hH hl (c_X3_groupsIn l D cy G X.2.2.2.1 S5 a0 a1 _ _ hf) mf_X3_groupsIn mv_X3_groupsIn tw_466 ⟨Nat.le_of_ble_eq_true rfl, Nat.le_of_ble_eq_true rfl⟩ hb1 hb2 (T := TX3) (N := 6) rfl rfl (Nat.le_of_ble_eq_true rfl) dX3_mergeLast_20 ⟨Nat.le_of_ble_eq_true rfl, Nat.le_of_ble_eq_true rfl⟩) (fun v8 S7 hf H locs hH => ?_)
  refine lv_iconst (v := 2) hx hb dX3_mergeLast_23 (by decide) ?_
  refine lv_isub hx hb dX3_mergeLast_24 ?_
  obtain ⟨hb1, hb2, hf⟩ := hf
  refine q_backI0 X hH (q_runV [.int a1, .int (v8 - 2)] [] X hH hl (c_X3_groupAt l D cy G X.2.2.2.1 S7 a0 a1 (v8 - 2) _ _ hf) mf_X3_groupAt mv_X3_groupAt tw_487 ⟨Nat.le_of_ble_eq_true rfl, Nat.le_of_ble_eq_true rfl⟩ hb1 hb2 (T := TX3) (N := 6) rfl rfl (Nat.le_of_ble_eq_true rfl) dX3_mergeLast_25 ⟨Nat.le_of_ble_eq_true rfl, Nat.le_of_ble_eq_true rfl⟩) (fun v10 S9 hf H locs hH => ?_)
  refine q_backI0 X hH (q_runSN [.int v10] [] X hH hl (c_X7_lowestOf l D cy G X.2.2.2.1 S9 v10 _ _ hf) mf_X7_lowestOf tw_492 (List.mem_of_getElem? (i := 19) rfl) ⟨Nat.le_of_ble_eq_true rfl, Nat.le_of_ble_eq_true rfl⟩ rfl (Nat.le_of_ble_eq_true rfl) dX3_mergeLast_28 ⟨Nat.le_of_ble_eq_true rfl, Nat.le_of_ble_eq_true rfl⟩) (fun v12 S11 hf H locs hH => ?_)
  refine lv_istore_n (lv' := [(3, .int v12), (2, .int v6), (0, .ref a0), (1, .int a1)]) hx hb dX3_mergeLast_31 rfl hl (by decide) rfl (fun ls hl => ?_)
  refine lv_iload_n hx hb dX3_mergeLast_32 rfl (lv_at hl 1 rfl) ?_
  refine lv_iload_n hx hb dX3_mergeLast_33 rfl (lv_at hl 0 rfl) ?_
  refine q_mmin X hl tw_495 tw_496 tw_47 tw_497 ⟨Nat.le_of_ble_eq_true rfl, Nat.le_of_ble_eq_true rfl⟩ (Nat.le_of_ble_eq_true rfl) (Nat.zero_le _) (Nat.zero_le _) dX3_mergeLast_34 ?_
  refine lv_istore (lv' := [(4, .int ((if v12 < v6 then v12 else v6))), (3, .int v12), (2, .int v6), (0, .ref a0), (1, .int a1)]) hx hb dX3_mergeLast_37 hl (by decide) rfl (fun ls hl => ?_)
  refine lv_iload_n hx hb dX3_mergeLast_39 rfl (lv_at hl 2 rfl) ?_
  refine lv_iload_n hx hb dX3_mergeLast_40 rfl (lv_at hl 1 rfl) ?_
  refine q_mmax X hl tw_498 tw_499 tw_47 tw_500 ⟨Nat.le_of_ble_eq_true rfl, Nat.le_of_ble_eq_true rfl⟩ (Nat.le_of_ble_eq_true rfl) (Nat.zero_le _) (Nat.zero_le _) dX3_mergeLast_41 ?_
  refine lv_istore (lv' := [(5, .int ((if v6 < v12 then v12 else v6))), (4, .int ((if v12 < v6 then v12 else v6))), (3, .int v12), (2, .int v6), (0, .ref a0), (1, .int a1)]) hx hb dX3_mergeLast_44 hl (by decide) rfl (fun ls hl => ?_)
  refine lv_iload hx hb dX3_mergeLast_46 (lv_at hl 1 rfl) ?_
  refine lv_if_ge (tgt := 52) hx hb dX3_mergeLast_48 (by decide) (fun c13 => ?_) (fun c13 => ?_)
  · have hf := (if_pos c13).mp hf
    refine lv_aload_n hx hb dX3_mergeLast_52 rfl (lv_at hl 4 rfl) ?_
    refine q_getR (T := TX3) (N := 6) X hH hf iw_X3 rfl (by decide) tw_126 (fun _ h => h) dX3_mergeLast_53 (fun v14 hf => ?_)
    refine lv_iload hx hb dX3_mergeLast_56 (lv_at hl 1 rfl) ?_
    refine lv_dup2_11 hx hb dX3_mergeLast_58 rfl rfl ?_
    refine q_iald X hH hf dX3_mergeLast_59 (fun v15 hf => ?_)
    refine lv_aload_n hx hb dX3_mergeLast_60 rfl (lv_at hl 4 rfl) ?_
    refine q_getR (T := TX3) (N := 6) X hH hf iw_X3 rfl (by decide) tw_126 (fun _ h => h) dX3_mergeLast_61 (fun v16 hf => ?_)
    refine lv_iload hx hb dX3_mergeLast_64 (lv_at hl 0 rfl) ?_
    refine q_iald X hH hf dX3_mergeLast_66 (fun v17 hf => ?_)
    refine lv_ior hx hb dX3_mergeLast_67 ?_
    refine q_iast X hH hf dX3_mergeLast_68 (fun S18 hf H locs hH => ?_)
    refine lv_aload_n hx hb dX3_mergeLast_69 rfl (lv_at hl 4 rfl) ?_
    refine q_getR (T := TX3) (N := 6) X hH hf iw_X3 rfl (by decide) tw_126 (fun _ h => h) dX3_mergeLast_70 (fun v19 hf => ?_)
    refine lv_iload hx hb dX3_mergeLast_73 (lv_at hl 0 rfl) ?_
    refine lv_iconst (v := 0) hx hb dX3_mergeLast_75 (by decide) ?_
    refine q_iast X hH hf dX3_mergeLast_76 (fun S20 hf H locs hH => ?_)
    refine lv_iconst (v := 0) hx hb dX3_mergeLast_77 (by decide) ?_
    refine lv_istore (lv' := [(6, .int 0), (5, .int ((if v6 < v12 then v12 else v6))), (4, .int ((if v12 < v6 then v12 else v6))), (3, .int v12), (2, .int v6), (0, .ref a0), (1, .int a1)]) hx hb dX3_mergeLast_78 hl (by decide) rfl (fun ls hl => ?_)
    exact hL80 4096 S20 a0 (if v12 < v6 then v12 else v6) (if v6 < v12 then v12 else v6) 0 hf H locs ls hH (lv_sub hl [5, 2, 1, 0] rfl)
  · have hf := (if_neg c13).mp hf
    exact q_retV X hH hr hlk hf (Nat.zero_le _) (Nat.zero_le _) dX3_mergeLast_51
-- X5_init
def f_X5_init (S : PS) (a0 : Nat) (bc bs : Nat) (post : PS → Prop) : Prop :=
  nO S 1 [.null, .int 0, .int 0, .int 0] 4 bc bs fun q1 S2 bc3 bs4 => (
  ∃ mc6 ms6 : Nat, mc6 ≤ bc3 ∧ ms6 ≤ bs4 ∧ (f_J4_init_da8c8 S2 q1 mc6 ms6 fun S5 => (
  pV S5 a0 9 0 (.ref q1) fun S8 => (
  nA S8 0 15 (bc3 - mc6) (bs4 - ms6) fun q9 S10 bc11 bs12 => (
  pV S10 a0 9 1 (.ref q9) fun S13 => (
  nA S13 0 45 bc11 bs12 fun q14 S15 bc16 bs17 => (
  pV S15 a0 9 2 (.ref q14) fun S18 => (
  pV S18 a0 9 3 (.int 0) fun S19 => (
  pV S19 a0 9 4 (.int 0) fun S20 => (
  pV S20 a0 9 5 (.int 0) fun S21 => (
  pV S21 a0 9 6 (.int ((-1))) fun S22 => (
  post S22))))))))))))
abbrev rm_X5_init (mc ms : Nat) : Room := { frames := 3, cells := mc, slots := ms, locals := 61 }
set_option maxHeartbeats 4000000 in
set_option maxRecDepth 100000 in
theorem c_X5_init (l : Launch) (D : va_G) (cy : Nat → ClassId) (G : p_GT) (hG : p_ok G) (hGC : ∀ (A : Nat → Prop) (U : State) (H : Heap), G A U H → gC A U H) (S : PS) (a0 : Nat) (mc ms : Nat) (post : PS → Prop) (sz : Nat) (hf : f_X5_init S a0 mc ms post) : p_Mv l D cy G S sz yX5_init (Cond.code yX5_init cX5_init 1 none :: wG) (rm_X5_init mc ms) [.ref a0] mc ms post := by
  refine q_start hG (Qc := fun A => va_Qv post (p_Post D cy A) A) mf_X5_init (Nat.le_of_ble_eq_true rfl) (own := RX5) rfl ?_
  intro p e s m below meth c A X hr hlk hnm ls hl hH
  have hx := X.1.1
  have hb := X.1.2.1
  replace hl : lv_has ls 1 [(0, .ref a0)] := hl
  have main : ∀ (H : Heap) (locs : List Loc) (ls : Array Slot) (cells slots bc bs : Nat), f_X5_init S a0 bc bs post → p_H D cy S A s H locs → lv_has ls 1 [(0, .ref a0)] → cells + bc ≤ mc ∧ slots + bs ≤ ms → W p l e (rm_X5_init mc ms) s m [.ref a0].toArray below meth c H locs cells slots (MQ below (va_Qv post (p_Post D cy A) A) [.ref a0].toArray s mc ms A) (F0 m 0 ls []) := by
    intro H locs ls cells slots bc bs hf hH hl hB
    refine lv_aload_n hx hb dX5_init_0 rfl (lv_at hl 0 rfl) ?_
    refine q_objInit X hl tw_176 tw_64 tw_o ⟨Nat.le_of_ble_eq_true rfl, Nat.le_of_ble_eq_true rfl⟩ (Nat.le_of_ble_eq_true rfl) dX5_init_1 ?_
    refine lv_aload_n hx hb dX5_init_4 rfl (lv_at hl 0 rfl) ?_
    refine q_new (T := TJ4) (N := 4) X hH hB hf iw_J4 tyJ4 tyJ4_ok rfl tw_177 tw_178 tw_38 (fun j hj => by rcases (show j = 0 ∨ j = 1 ∨ j = 2 ∨ j = 3 by omega) with rfl | rfl | rfl | rfl <;> rfl) dX5_init_5 (fun q1 S2 bc3 bs4 hf H locs cells slots hH hB => ?_)
    refine lv_dup hx hb dX5_init_8 rfl ?_
    obtain ⟨mc6, ms6, hm1, hs1, hf⟩ := hf
    refine q_backVB X hH hB hm1 hs1 (q_runI [] [.ref q1, .ref a0] X hH hl (c_J4_init_da8c8 l D cy G X.2.2.2.1 hGC S2 q1 mc6 ms6 _ _ hf) mf_J4_init_da8c8 tw_180 tw_179 ⟨Nat.le_of_ble_eq_true rfl, Nat.le_of_ble_eq_true rfl⟩ rfl (Nat.le_of_ble_eq_true rfl) dX5_init_9 ⟨Nat.le_trans (Nat.add_le_add_left hm1 _) hB.1, Nat.le_trans (Nat.add_le_add_left hs1 _) hB.2⟩) (fun S5 hf H locs cells slots hH hB => ?_)
    refine q_putF (T := TX5) (N := 7) (ty0 := tyX5) (ty := tyX5 0) X hH hf iw_X5 tyX5_ok nmX5 rfl (by decide) tw_210 (fun _ h => h) rfl hnm rfl (tyX5_ok 0 (by decide)) rfl rfl dX5_init_12 (fun S8 hf H locs hH => ?_)
    refine lv_aload_n hx hb dX5_init_15 rfl (lv_at hl 0 rfl) ?_
    refine lv_bipush (v := 15) hx hb dX5_init_16 (by decide) ?_
    refine q_newa (t := 0) (atype := .int) (ty := .int) X hH hB hf tw_98 rfl rfl (fun C h => by cases h) (fun N cA => rfl) (by decide) dX5_init_18 (fun q9 S10 bc11 bs12 hf H locs cells slots hH hB => ?_)
    refine q_putF (T := TX5) (N := 7) (ty0 := tyX5) (ty := tyX5 1) X hH hf iw_X5 tyX5_ok nmX5 rfl (by decide) tw_211 (fun _ h => h) rfl hnm rfl (tyX5_ok 1 (by decide)) rfl rfl dX5_init_20 (fun S13 hf H locs hH => ?_)
    refine lv_aload_n hx hb dX5_init_23 rfl (lv_at hl 0 rfl) ?_
    refine lv_bipush (v := 45) hx hb dX5_init_24 (by decide) ?_
    refine q_newa (t := 0) (atype := .int) (ty := .int) X hH hB hf tw_98 rfl rfl (fun C h => by cases h) (fun N cA => rfl) (by decide) dX5_init_26 (fun q14 S15 bc16 bs17 hf H locs cells slots hH hB => ?_)
    refine q_putF (T := TX5) (N := 7) (ty0 := tyX5) (ty := tyX5 2) X hH hf iw_X5 tyX5_ok nmX5 rfl (by decide) tw_212 (fun _ h => h) rfl hnm rfl (tyX5_ok 2 (by decide)) rfl rfl dX5_init_28 (fun S18 hf H locs hH => ?_)
    refine lv_aload_n hx hb dX5_init_31 rfl (lv_at hl 0 rfl) ?_
    refine lv_iconst (v := 0) hx hb dX5_init_32 (by decide) ?_
    refine q_putV (T := TX5) (N := 7) (ty0 := tyX5) (ty := tyX5 3) X hH hf iw_X5 tyX5_ok nmX5 rfl (by decide) tw_213 (fun _ h => h) rfl (tyX5_ok 3 (by decide)) rfl rfl dX5_init_33 (fun S19 hf H locs hH => ?_)
    refine lv_aload_n hx hb dX5_init_36 rfl (lv_at hl 0 rfl) ?_
    refine lv_iconst (v := 0) hx hb dX5_init_37 (by decide) ?_
    refine q_putV (T := TX5) (N := 7) (ty0 := tyX5) (ty := tyX5 4) X hH hf iw_X5 tyX5_ok nmX5 rfl (by decide) tw_214 (fun _ h => h) rfl (tyX5_ok 4 (by decide)) rfl rfl dX5_init_38 (fun S20 hf H locs hH => ?_)
    refine lv_aload_n hx hb dX5_init_41 rfl (lv_at hl 0 rfl) ?_
    refine lv_iconst (v := 0) hx hb dX5_init_42 (by decide) ?_
    refine q_putV (T := TX5) (N := 7) (ty0 := tyX5) (ty := tyX5 5) X hH hf iw_X5 tyX5_ok nmX5 rfl (by decide) tw_215 (fun _ h => h) rfl (tyX5_ok 5 (by decide)) rfl rfl dX5_init_43 (fun S21 hf H locs hH => ?_)
    refine lv_aload_n hx hb dX5_init_46 rfl (lv_at hl 0 rfl) ?_
    refine lv_iconst (v := (-1)) hx hb dX5_init_47 (by decide) ?_
    refine q_putV (T := TX5) (N := 7) (ty0 := tyX5) (ty := tyX5 6) X hH hf iw_X5 tyX5_ok nmX5 rfl (by decide) tw_216 (fun _ h => h) rfl (tyX5_ok 6 (by decide)) rfl rfl dX5_init_48 (fun S22 hf H locs hH => ?_)
    exact q_retV X hH hr hlk hf (Nat.le_trans (Nat.le_add_right _ _) hB.1) (Nat.le_trans (Nat.le_add_right _ _) hB.2) dX5_init_51
  exact main s.heap [] ls 0 0 mc ms hf hH hl ⟨by omega, by omega⟩
-- X5_length
def f_X5_length (S : PS) (a0 : Nat) (post : Int32 → PS → Prop) : Prop :=
  gR S a0 9 0 fun v1 => (
  isO S v1 1 (
  f_J4_length_8abf5 S v1 fun v3 S2 => (
  post v3 S2)))
abbrev rm_X5_length : Room := { frames := 2, cells := 0, slots := 0, locals := 40 }
set_option maxHeartbeats 4000000 in
set_option maxRecDepth 100000 in
theorem c_X5_length (l : Launch) (D : va_G) (cy : Nat → ClassId) (G : p_GT) (hG : p_ok G) (S : PS) (a0 : Nat) (post : Int32 → PS → Prop) (sz : Nat) (hf : f_X5_length S a0 post) : p_Mi l D cy G S sz yX5_length (Cond.code yX5_length cX5_length 1 (some .int) :: wG) rm_X5_length [.ref a0] 0 0 post := by
  refine q_start hG (Qc := fun A => va_Qi post (p_Post D cy A) A) mf_X5_length (Nat.le_of_ble_eq_true rfl) (own := RX5) rfl ?_
  intro p e s m below meth c A X hr hlk hnm ls hl hH
  have hx := X.1.1
  have hb := X.1.2.1
  replace hl : lv_has ls 1 [(0, .ref a0)] := hl
  obtain ⟨H, hHe⟩ : ∃ H, H = s.heap := ⟨_, rfl⟩
  obtain ⟨locs, hlo⟩ : ∃ locs : List Loc, locs = [] := ⟨_, rfl⟩
  rw [← hHe, ← hlo] at hH
  show W p l e rm_X5_length s m [.ref a0].toArray below meth c s.heap [] 0 0 _ _
  rw [← hHe, ← hlo]
  refine lv_aload_n hx hb dX5_length_0 rfl (lv_at hl 0 rfl) ?_
  refine q_getR (T := TX5) (N := 7) X hH hf iw_X5 rfl (by decide) tw_210 (fun _ h => h) dX5_length_1 (fun v1 hf => ?_)
  obtain ⟨hb1, hb2, hf⟩ := hf
  refine q_backI0 X hH (q_runV [] [] X hH hl (c_J4_length_8abf5 l D cy G X.2.2.2.1 S v1 _ _ hf) mf_J4_length_8abf5 mv_J4_length_8abf5 tw_866 ⟨Nat.le_of_ble_eq_true rfl, Nat.le_of_ble_eq_true rfl⟩ hb1 hb2 (T := TJ4) (N := 4) rfl rfl (Nat.le_of_ble_eq_true rfl) dX5_length_4 ⟨Nat.le_of_ble_eq_true rfl, Nat.le_of_ble_eq_true rfl⟩) (fun v3 S2 hf H locs hH => ?_)
  exact q_retI X hH hr hlk hf (Nat.zero_le _) (Nat.zero_le _) dX5_length_7
-- X6_sideOf
def f_X6_sideOf (S : PS) (a0 : Nat) (a1 : Int32) (post : Int32 → PS → Prop) : Prop :=
  gI S a0 10 2 fun v1 => (
  f_X7_isIn S v1 a1 fun v3 S2 => (
  if v3 = 0 then
    post 0 S2
  else
    post 1 S2))
abbrev rm_X6_sideOf : Room := { frames := 1, cells := 0, slots := 0, locals := 21 }
set_option maxHeartbeats 4000000 in
set_option maxRecDepth 100000 in
theorem c_X6_sideOf (l : Launch) (D : va_G) (cy : Nat → ClassId) (G : p_GT) (hG : p_ok G) (S : PS) (a0 : Nat) (a1 : Int32) (post : Int32 → PS → Prop) (sz : Nat) (hf : f_X6_sideOf S a0 a1 post) : p_Mi l D cy G S sz yX6_sideOf (Cond.code yX6_sideOf cX6_sideOf 2 (some .int) :: wG) rm_X6_sideOf [.ref a0, .int a1] 0 0 post := by
  refine q_start hG (Qc := fun A => va_Qi post (p_Post D cy A) A) mf_X6_sideOf (Nat.le_of_ble_eq_true rfl) (own := RX6) rfl ?_
  intro p e s m below meth c A X hr hlk hnm ls hl hH
  have hx := X.1.1
  have hb := X.1.2.1
  replace hl : lv_has ls 2 [(0, .ref a0), (1, .int a1)] := hl
  obtain ⟨H, hHe⟩ : ∃ H, H = s.heap := ⟨_, rfl⟩
  obtain ⟨locs, hlo⟩ : ∃ locs : List Loc, locs = [] := ⟨_, rfl⟩
  rw [← hHe, ← hlo] at hH
  show W p l e rm_X6_sideOf s m [.ref a0, .int a1].toArray below meth c s.heap [] 0 0 _ _
  rw [← hHe, ← hlo]
  refine lv_aload_n hx hb dX6_sideOf_0 rfl (lv_at hl 0 rfl) ?_
  refine q_getI (T := TX6) (N := 6) X hH hf iw_X6 rfl (by decide) tw_77 (fun _ h => h) dX6_sideOf_1 (fun v1 hf => ?_)
  refine lv_iload_n hx hb dX6_sideOf_4 rfl (lv_at hl 1 rfl) ?_
  refine q_backI0 X hH (q_runSN [.int v1, .int a1] [] X hH hl (c_X7_isIn l D cy G X.2.2.2.1 S v1 a1 _ _ hf) mf_X7_isIn tw_372 (List.mem_of_getElem? (i := 20) rfl) ⟨Nat.le_of_ble_eq_true rfl, Nat.le_of_ble_eq_true rfl⟩ rfl (Nat.le_of_ble_eq_true rfl) dX6_sideOf_5 ⟨Nat.le_of_ble_eq_true rfl, Nat.le_of_ble_eq_true rfl⟩) (fun v3 S2 hf H locs hH => ?_)
  refine lv_if_eq (tgt := 15) hx hb dX6_sideOf_8 (by decide) (fun c4 => ?_) (fun c4 => ?_)
  · have hf := (if_pos c4).mp hf
    refine lv_iconst (v := 0) hx hb dX6_sideOf_15 (by decide) ?_
    exact q_retI X hH hr hlk hf (Nat.zero_le _) (Nat.zero_le _) dX6_sideOf_16
  · have hf := (if_neg c4).mp hf
    refine lv_iconst (v := 1) hx hb dX6_sideOf_11 (by decide) ?_
    refine lv_goto (tgt := 16) hx hb dX6_sideOf_12 (by decide) ?_
    exact q_retI X hH hr hlk hf (Nat.zero_le _) (Nat.zero_le _) dX6_sideOf_16
-- X6_sameSide
def f_X6_sameSide (S : PS) (a0 : Nat) (a1 : Int32) (post : Int32 → PS → Prop) : Prop :=
  isO S a0 10 (
  f_X6_sideOf S a0 a1 fun v2 S1 => (
  if v2 = 1 then
    gI S1 a0 10 2 fun v7 => (
    post v7 S1)
  else
    isO S1 a0 10 (
    f_X6_everyone S1 a0 fun v5 S4 => (
    gI S4 a0 10 2 fun v6 => (
    post (v5 &&& (v6 ^^^ (-1))) S4)))))
abbrev rm_X6_sameSide : Room := { frames := 2, cells := 0, slots := 0, locals := 42 }
set_option maxHeartbeats 4000000 in
set_option maxRecDepth 100000 in
theorem c_X6_sameSide (l : Launch) (D : va_G) (cy : Nat → ClassId) (G : p_GT) (hG : p_ok G) (S : PS) (a0 : Nat) (a1 : Int32) (post : Int32 → PS → Prop) (sz : Nat) (hf : f_X6_sameSide S a0 a1 post) : p_Mi l D cy G S sz yX6_sameSide (Cond.code yX6_sameSide cX6_sameSide 2 (some .int) :: wG) rm_X6_sameSide [.ref a0, .int a1] 0 0 post := by
  refine q_start hG (Qc := fun A => va_Qi post (p_Post D cy A) A) mf_X6_sameSide (Nat.le_of_ble_eq_true rfl) (own := RX6) rfl ?_
  intro p e s m below meth c A X hr hlk hnm ls hl hH
  have hx := X.1.1
  have hb := X.1.2.1
  replace hl : lv_has ls 2 [(0, .ref a0), (1, .int a1)] := hl
  obtain ⟨H, hHe⟩ : ∃ H, H = s.heap := ⟨_, rfl⟩
  obtain ⟨locs, hlo⟩ : ∃ locs : List Loc, locs = [] := ⟨_, rfl⟩
  rw [← hHe, ← hlo] at hH
  show W p l e rm_X6_sameSide s m [.ref a0, .int a1].toArray below meth c s.heap [] 0 0 _ _
  rw [← hHe, ← hlo]
  refine lv_aload_n hx hb dX6_sameSide_0 rfl (lv_at hl 0 rfl) ?_
  refine lv_iload_n hx hb dX6_sameSide_1 rfl (lv_at hl 1 rfl) ?_
  obtain ⟨hb1, hb2, hf⟩ := hf
  refine q_backI0 X hH (q_runV [.int a1] [] X hH hl (c_X6_sideOf l D cy G X.2.2.2.1 S a0 a1 _ _ hf) mf_X6_sideOf mv_X6_sideOf tw_395 ⟨Nat.le_of_ble_eq_true rfl, Nat.le_of_ble_eq_true rfl⟩ hb1 hb2 (T := TX6) (N := 6) rfl rfl (Nat.le_of_ble_eq_true rfl) dX6_sameSide_2 ⟨Nat.le_of_ble_eq_true rfl, Nat.le_of_ble_eq_true rfl⟩) (fun v2 S1 hf H locs hH => ?_)
  refine lv_iconst (v := 1) hx hb dX6_sameSide_5 (by decide) ?_
  refine lv_icmp_ne (tgt := 16) hx hb dX6_sameSide_6 (by decide) (fun c3 => ?_) (fun c3 => ?_)
  · have hf := (if_neg c3).mp hf
    refine lv_aload_n hx hb dX6_sameSide_16 rfl (lv_at hl 0 rfl) ?_
    obtain ⟨hb1, hb2, hf⟩ := hf
    refine q_backI0 X hH (q_runV [] [] X hH hl (c_X6_everyone l D cy G X.2.2.2.1 S1 a0 _ _ hf) mf_X6_everyone mv_X6_everyone tw_396 ⟨Nat.le_of_ble_eq_true rfl, Nat.le_of_ble_eq_true rfl⟩ hb1 hb2 (T := TX6) (N := 6) rfl rfl (Nat.le_of_ble_eq_true rfl) dX6_sameSide_17 ⟨Nat.le_of_ble_eq_true rfl, Nat.le_of_ble_eq_true rfl⟩) (fun v5 S4 hf H locs hH => ?_)
    refine lv_aload_n hx hb dX6_sameSide_20 rfl (lv_at hl 0 rfl) ?_
    refine q_getI (T := TX6) (N := 6) X hH hf iw_X6 rfl (by decide) tw_77 (fun _ h => h) dX6_sameSide_21 (fun v6 hf => ?_)
    refine lv_iconst (v := (-1)) hx hb dX6_sameSide_24 (by decide) ?_
    refine lv_ixor hx hb dX6_sameSide_25 ?_
    refine lv_iand hx hb dX6_sameSide_26 ?_
    exact q_retI X hH hr hlk hf (Nat.zero_le _) (Nat.zero_le _) dX6_sameSide_27
  · have hf := (if_pos c3).mp hf
    refine lv_aload_n hx hb dX6_sameSide_9 rfl (lv_at hl 0 rfl) ?_
    refine q_getI (T := TX6) (N := 6) X hH hf iw_X6 rfl (by decide) tw_77 (fun _ h => h) dX6_sameSide_10 (fun v7 hf => ?_)
    refine lv_goto (tgt := 27) hx hb dX6_sameSide_13 (by decide) ?_
    exact q_retI X hH hr hlk hf (Nat.zero_le _) (Nat.zero_le _) dX6_sameSide_27
-- X6_otherSide
def f_X6_otherSide (S : PS) (a0 : Nat) (a1 : Int32) (post : Int32 → PS → Prop) : Prop :=
  isO S a0 10 (
  f_X6_everyone S a0 fun v2 S1 => (
  isO S1 a0 10 (
  f_X6_sameSide S1 a0 a1 fun v4 S3 => (
  post (v2 &&& (v4 ^^^ (-1))) S3))))
abbrev rm_X6_otherSide : Room := { frames := 3, cells := 0, slots := 0, locals := 63 }
set_option maxHeartbeats 4000000 in
set_option maxRecDepth 100000 in
theorem c_X6_otherSide (l : Launch) (D : va_G) (cy : Nat → ClassId) (G : p_GT) (hG : p_ok G) (S : PS) (a0 : Nat) (a1 : Int32) (post : Int32 → PS → Prop) (sz : Nat) (hf : f_X6_otherSide S a0 a1 post) : p_Mi l D cy G S sz yX6_otherSide (Cond.code yX6_otherSide cX6_otherSide 2 (some .int) :: wG) rm_X6_otherSide [.ref a0, .int a1] 0 0 post := by
  refine q_start hG (Qc := fun A => va_Qi post (p_Post D cy A) A) mf_X6_otherSide (Nat.le_of_ble_eq_true rfl) (own := RX6) rfl ?_
  intro p e s m below meth c A X hr hlk hnm ls hl hH
  have hx := X.1.1
  have hb := X.1.2.1
  replace hl : lv_has ls 2 [(0, .ref a0), (1, .int a1)] := hl
  obtain ⟨H, hHe⟩ : ∃ H, H = s.heap := ⟨_, rfl⟩
  obtain ⟨locs, hlo⟩ : ∃ locs : List Loc, locs = [] := ⟨_, rfl⟩
  rw [← hHe, ← hlo] at hH
  show W p l e rm_X6_otherSide s m [.ref a0, .int a1].toArray below meth c s.heap [] 0 0 _ _
  rw [← hHe, ← hlo]
  refine lv_aload_n hx hb dX6_otherSide_0 rfl (lv_at hl 0 rfl) ?_
  obtain ⟨hb1, hb2, hf⟩ := hf
  refine q_backI0 X hH (q_runV [] [] X hH hl (c_X6_everyone l D cy G X.2.2.2.1 S a0 _ _ hf) mf_X6_everyone mv_X6_everyone tw_396 ⟨Nat.le_of_ble_eq_true rfl, Nat.le_of_ble_eq_true rfl⟩ hb1 hb2 (T := TX6) (N := 6) rfl rfl (Nat.le_of_ble_eq_true rfl) dX6_otherSide_1 ⟨Nat.le_of_ble_eq_true rfl, Nat.le_of_ble_eq_true rfl⟩) (fun v2 S1 hf H locs hH => ?_)
  refine lv_aload_n hx hb dX6_otherSide_4 rfl (lv_at hl 0 rfl) ?_
  refine lv_iload_n hx hb dX6_otherSide_5 rfl (lv_at hl 1 rfl) ?_
  obtain ⟨hb1, hb2, hf⟩ := hf
  refine q_backI0 X hH (q_runV [.int a1] [.int v2] X hH hl (c_X6_sameSide l D cy G X.2.2.2.1 S1 a0 a1 _ _ hf) mf_X6_sameSide mv_X6_sameSide tw_401 ⟨Nat.le_of_ble_eq_true rfl, Nat.le_of_ble_eq_true rfl⟩ hb1 hb2 (T := TX6) (N := 6) rfl rfl (Nat.le_of_ble_eq_true rfl) dX6_otherSide_6 ⟨Nat.le_of_ble_eq_true rfl, Nat.le_of_ble_eq_true rfl⟩) (fun v4 S3 hf H locs hH => ?_)
  refine lv_iconst (v := (-1)) hx hb dX6_otherSide_9 (by decide) ?_
  refine lv_ixor hx hb dX6_otherSide_10 ?_
  refine lv_iand hx hb dX6_otherSide_11 ?_
  exact q_retI X hH hr hlk hf (Nat.zero_le _) (Nat.zero_le _) dX6_otherSide_12
-- X6_dismiss
def f_X6_dismiss_J124 (post : Int32 → PS → Prop) (S : PS) (l0 : Nat) (l1 : Int32) : Prop :=
  gI S l0 10 2 fun v1 => (
  gI S l0 10 2 fun v2 => (
  pV S l0 10 2 (.int ((v1 &&& (((1 : Int32) <<< (l1 &&& 31)) - 1)) ||| ((v2 >>> ((1 : Int32) &&& 31)) &&& ((((1 : Int32) <<< (l1 &&& 31)) - 1) ^^^ (-1))))) fun S3 => (
  gI S3 l0 10 1 fun v4 => (
  pV S3 l0 10 1 (.int (v4 - 1)) fun S5 => (
  gI S5 l0 10 4 fun v6 => (
  pV S5 l0 10 4 (.int (v6 + 1)) fun S7 => (
  gI S7 l0 10 1 fun v8 => (
  post v8 S7))))))))
def f_X6_dismiss_L98 (post : Int32 → PS → Prop) : Nat → PS → Nat → Int32 → Int32 → Prop
  | 0, _, _, _, _ => False
  | n + 1, S, l0, l1, l2 =>
  gI S l0 10 1 fun v1 => (
  if v1 ≤ l2 then
    f_X6_dismiss_J124 post S l0 l1
  else
    gI S l0 10 1 fun v3 => (
    isO S l0 10 (
    f_X6_setTie S l0 l2 (v3 - 1) 0 fun S4 => (
    (f_X6_dismiss_L98 post n) S4 l0 l1 (l2 + 1)))))
def f_X6_dismiss_J96 (post : Int32 → PS → Prop) (S : PS) (l0 : Nat) (l1 : Int32) : Prop :=
  f_X6_dismiss_L98 post 4096 S l0 l1 0
def f_X6_dismiss_J90 (post : Int32 → PS → Prop) (g15 : PS → Nat → Int32 → Int32 → Prop) (S : PS) (l0 : Nat) (l1 : Int32) (l2 : Int32) : Prop :=
  g15 S l0 l1 (l2 + 1)
def f_X6_dismiss_J63 (post : Int32 → PS → Prop) (g27 : PS → Nat → Int32 → Int32 → Int32 → Prop) (S : PS) (l0 : Nat) (l1 : Int32) (l2 : Int32) (l3 : Int32) (l4 : Int32) (t0 : Int32) : Prop :=
  gR S l0 10 0 fun v1 => (
  isO S l0 10 (
  f_X6_tie S l0 l4 t0 fun v3 S2 => (
  sI S2 v1 0 ((l2 * 9) + l3) v3 fun S4 => (
  g27 S4 l0 l1 l2 (l3 + 1)))))
def f_X6_dismiss_J49 (post : Int32 → PS → Prop) (g27 : PS → Nat → Int32 → Int32 → Int32 → Prop) (S : PS) (l0 : Nat) (l1 : Int32) (l2 : Int32) (l3 : Int32) (t0 : Int32) : Prop :=
  if l1 ≤ l3 then
    f_X6_dismiss_J63 post g27 S l0 l1 l2 l3 t0 (l3 + 1)
  else
    f_X6_dismiss_J63 post g27 S l0 l1 l2 l3 t0 l3
def f_X6_dismiss_L27 (post : Int32 → PS → Prop) (g15 : PS → Nat → Int32 → Int32 → Prop) : Nat → PS → Nat → Int32 → Int32 → Int32 → Prop
  | 0, _, _, _, _, _ => False
  | n + 1, S, l0, l1, l2, l3 =>
  gI S l0 10 1 fun v1 => (
  if (v1 - 1) ≤ l3 then
    f_X6_dismiss_J90 post g15 S l0 l1 l2
  else
    if l1 ≤ l2 then
      f_X6_dismiss_J49 post (f_X6_dismiss_L27 post g15 n) S l0 l1 l2 l3 (l2 + 1)
    else
      f_X6_dismiss_J49 post (f_X6_dismiss_L27 post g15 n) S l0 l1 l2 l3 l2)
def f_X6_dismiss_L15 (post : Int32 → PS → Prop) : Nat → PS → Nat → Int32 → Int32 → Prop
  | 0, _, _, _, _ => False
  | n + 1, S, l0, l1, l2 =>
  gI S l0 10 1 fun v1 => (
  if (v1 - 1) ≤ l2 then
    f_X6_dismiss_J96 post S l0 l1
  else
    f_X6_dismiss_L27 post (f_X6_dismiss_L15 post n) 4096 S l0 l1 l2 0)
def f_X6_dismiss (S : PS) (a0 : Nat) (a1 : Int32) (post : Int32 → PS → Prop) : Prop :=
  isO S a0 10 (
  f_X6_has S a0 a1 fun v2 S1 => (
  if v2 = 0 then
    gI S1 a0 10 1 fun v4 => (
    post v4 S1)
  else
    f_X6_dismiss_L15 post 4096 S1 a0 a1 0))
abbrev rm_X6_dismiss : Room := { frames := 2, cells := 0, slots := 0, locals := 44 }
set_option maxHeartbeats 4000000 in
set_option maxRecDepth 100000 in
theorem c_X6_dismiss (l : Launch) (D : va_G) (cy : Nat → ClassId) (G : p_GT) (hG : p_ok G) (S : PS) (a0 : Nat) (a1 : Int32) (post : Int32 → PS → Prop) (sz : Nat) (hf : f_X6_dismiss S a0 a1 post) : p_Mi l D cy G S sz yX6_dismiss (Cond.code yX6_dismiss cX6_dismiss 6 (some .int) :: wG) rm_X6_dismiss [.ref a0, .int a1] 0 0 post := by
  refine q_start hG (Qc := fun A => va_Qi post (p_Post D cy A) A) mf_X6_dismiss (Nat.le_of_ble_eq_true rfl) (own := RX6) rfl ?_
  intro p e s m below meth c A X hr hlk hnm ls hl hH
  have hx := X.1.1
  have hb := X.1.2.1
  replace hl : lv_has ls 6 [(0, .ref a0), (1, .int a1)] := hl
  obtain ⟨H, hHe⟩ : ∃ H, H = s.heap := ⟨_, rfl⟩
  obtain ⟨locs, hlo⟩ : ∃ locs : List Loc, locs = [] := ⟨_, rfl⟩
  rw [← hHe, ← hlo] at hH
  show W p l e rm_X6_dismiss s m [.ref a0, .int a1].toArray below meth c s.heap [] 0 0 _ _
  rw [← hHe, ← hlo]
  have hL15 : ∀ (n15 : Nat) (S : PS) (l0 : Nat) (l1 : Int32) (l2 : Int32), f_X6_dismiss_L15 post n15 S l0 l1 l2 → ∀ (H : Heap) (locs : List Loc) (ls : Array Slot), p_H D cy S A s H locs → lv_has ls 6 [(0, .ref l0), (1, .int l1), (2, .int l2)] → W p l e rm_X6_dismiss s m [.ref a0, .int a1].toArray below meth c H locs 0 0 (MQ below (va_Qi post (p_Post D cy A) A) [.ref a0, .int a1].toArray s 0 0 A) (F0 m 15 ls []) := by
    intro n15
    induction n15 with
    | zero => intro S l0 l1 l2 hf; exact hf.elim
    | succ n15 ih15 =>
      intro S l0 l1 l2 hf H locs ls hH hl
      have hJ96 : ∀ (S : PS) (l0 : Nat) (l1 : Int32), f_X6_dismiss_J96 post S l0 l1 → ∀ (H : Heap) (locs : List Loc) (ls : Array Slot), p_H D cy S A s H locs → lv_has ls 6 [(0, .ref l0), (1, .int l1)] → W p l e rm_X6_dismiss s m [.ref a0, .int a1].toArray below meth c H locs 0 0 (MQ below (va_Qi post (p_Post D cy A) A) [.ref a0, .int a1].toArray s 0 0 A) (F0 m 96 ls []) := by
        intro S l0 l1 hf H locs ls hH hl
        have hL98 : ∀ (n98 : Nat) (S : PS) (l0 : Nat) (l1 : Int32) (l2 : Int32), f_X6_dismiss_L98 post n98 S l0 l1 l2 → ∀ (H : Heap) (locs : List Loc) (ls : Array Slot), p_H D cy S A s H locs → lv_has ls 6 [(0, .ref l0), (1, .int l1), (2, .int l2)] → W p l e rm_X6_dismiss s m [.ref a0, .int a1].toArray below meth c H locs 0 0 (MQ below (va_Qi post (p_Post D cy A) A) [.ref a0, .int a1].toArray s 0 0 A) (F0 m 98 ls []) := by
          intro n98
          induction n98 with
          | zero => intro S l0 l1 l2 hf; exact hf.elim
          | succ n98 ih98 =>
            intro S l0 l1 l2 hf H locs ls hH hl
            have hJ124 : ∀ (S : PS) (l0 : Nat) (l1 : Int32), f_X6_dismiss_J124 post S l0 l1 → ∀ (H : Heap) (locs : List Loc) (ls : Array Slot), p_H D cy S A s H locs → lv_has ls 6 [(0, .ref l0), (1, .int l1)] → W p l e rm_X6_dismiss s m [.ref a0, .int a1].toArray below meth c H locs 0 0 (MQ below (va_Qi post (p_Post D cy A) A) [.ref a0, .int a1].toArray s 0 0 A) (F0 m 124 ls []) := by
              intro S l0 l1 hf H locs ls hH hl
              refine lv_iconst (v := 1) hx hb dX6_dismiss_124 (by decide) ?_
              refine lv_iload_n hx hb dX6_dismiss_125 rfl (lv_at hl 1 rfl) ?_
              refine lv_ishl hx hb dX6_dismiss_126 ?_
              refine lv_iconst (v := 1) hx hb dX6_dismiss_127 (by decide) ?_
              refine lv_isub hx hb dX6_dismiss_128 ?_
              refine lv_istore_n (lv' := [(2, .int (((1 : Int32) <<< (l1 &&& 31)) - 1)), (0, .ref l0), (1, .int l1)]) hx hb dX6_dismiss_129 rfl hl (by decide) rfl (fun ls hl => ?_)
              refine lv_aload_n hx hb dX6_dismiss_130 rfl (lv_at hl 1 rfl) ?_
              refine lv_aload_n hx hb dX6_dismiss_131 rfl (lv_at hl 1 rfl) ?_
              refine q_getI (T := TX6) (N := 6) X hH hf iw_X6 rfl (by decide) tw_77 (fun _ h => h) dX6_dismiss_132 (fun v1 hf => ?_)
              refine lv_iload_n hx hb dX6_dismiss_135 rfl (lv_at hl 0 rfl) ?_
              refine lv_iand hx hb dX6_dismiss_136 ?_
              refine lv_aload_n hx hb dX6_dismiss_137 rfl (lv_at hl 1 rfl) ?_
              refine q_getI (T := TX6) (N := 6) X hH hf iw_X6 rfl (by decide) tw_77 (fun _ h => h) dX6_dismiss_138 (fun v2 hf => ?_)
              refine lv_iconst (v := 1) hx hb dX6_dismiss_141 (by decide) ?_
              refine lv_ishr hx hb dX6_dismiss_142 ?_
              refine lv_iload_n hx hb dX6_dismiss_143 rfl (lv_at hl 0 rfl) ?_
              refine lv_iconst (v := (-1)) hx hb dX6_dismiss_144 (by decide) ?_
              refine lv_ixor hx hb dX6_dismiss_145 ?_
              refine lv_iand hx hb dX6_dismiss_146 ?_
              refine lv_ior hx hb dX6_dismiss_147 ?_
              refine q_putV (T := TX6) (N := 6) (ty0 := tyX6) (ty := tyX6 2) X hH hf iw_X6 tyX6_ok nmX6 rfl (by decide) tw_77 (fun _ h => h) rfl (tyX6_ok 2 (by decide)) rfl rfl dX6_dismiss_148 (fun S3 hf H locs hH => ?_)
              refine lv_aload_n hx hb dX6_dismiss_151 rfl (lv_at hl 1 rfl) ?_
              refine lv_dup hx hb dX6_dismiss_152 rfl ?_
              refine q_getI (T := TX6) (N := 6) X hH hf iw_X6 rfl (by decide) tw_73 (fun _ h => h) dX6_dismiss_153 (fun v4 hf => ?_)
              refine lv_iconst (v := 1) hx hb dX6_dismiss_156 (by decide) ?_
              refine lv_isub hx hb dX6_dismiss_157 ?_
              refine q_putV (T := TX6) (N := 6) (ty0 := tyX6) (ty := tyX6 1) X hH hf iw_X6 tyX6_ok nmX6 rfl (by decide) tw_73 (fun _ h => h) rfl (tyX6_ok 1 (by decide)) rfl rfl dX6_dismiss_158 (fun S5 hf H locs hH => ?_)
              refine lv_aload_n hx hb dX6_dismiss_161 rfl (lv_at hl 1 rfl) ?_
              refine lv_dup hx hb dX6_dismiss_162 rfl ?_
              refine q_getI (T := TX6) (N := 6) X hH hf iw_X6 rfl (by decide) tw_81 (fun _ h => h) dX6_dismiss_163 (fun v6 hf => ?_)
              refine lv_iconst (v := 1) hx hb dX6_dismiss_166 (by decide) ?_
              refine lv_iadd hx hb dX6_dismiss_167 ?_
              refine q_putV (T := TX6) (N := 6) (ty0 := tyX6) (ty := tyX6 4) X hH hf iw_X6 tyX6_ok nmX6 rfl (by decide) tw_81 (fun _ h => h) rfl (tyX6_ok 4 (by decide)) rfl rfl dX6_dismiss_168 (fun S7 hf H locs hH => ?_)
              refine lv_aload_n hx hb dX6_dismiss_171 rfl (lv_at hl 1 rfl) ?_
              refine q_getI (T := TX6) (N := 6) X hH hf iw_X6 rfl (by decide) tw_73 (fun _ h => h) dX6_dismiss_172 (fun v8 hf => ?_)
              exact q_retI X hH hr hlk hf (Nat.zero_le _) (Nat.zero_le _) dX6_dismiss_175
            refine lv_iload_n hx hb dX6_dismiss_98 rfl (lv_at hl 2 rfl) ?_
            refine lv_aload_n hx hb dX6_dismiss_99 rfl (lv_at hl 0 rfl) ?_
            refine q_getI (T := TX6) (N := 6) X hH hf iw_X6 rfl (by decide) tw_73 (fun _ h => h) dX6_dismiss_100 (fun v1 hf => ?_)
            refine lv_icmp_ge (tgt := 124) hx hb dX6_dismiss_103 (by decide) (fun c2 => ?_) (fun c2 => ?_)
            · have hf := (if_pos c2).mp hf
              exact hJ124 S l0 l1 hf H locs ls hH (lv_sub hl [0, 1] rfl)
            · have hf := (if_neg c2).mp hf
              refine lv_aload_n hx hb dX6_dismiss_106 rfl (lv_at hl 0 rfl) ?_
              refine lv_iload_n hx hb dX6_dismiss_107 rfl (lv_at hl 2 rfl) ?_
              refine lv_aload_n hx hb dX6_dismiss_108 rfl (lv_at hl 0 rfl) ?_
              refine q_getI (T := TX6) (N := 6) X hH hf iw_X6 rfl (by decide) tw_73 (fun _ h => h) dX6_dismiss_109 (fun v3 hf => ?_)
              refine lv_iconst (v := 1) hx hb dX6_dismiss_112 (by decide) ?_
              refine lv_isub hx hb dX6_dismiss_113 ?_
              refine lv_iconst (v := 0) hx hb dX6_dismiss_114 (by decide) ?_
              obtain ⟨hb1, hb2, hf⟩ := hf
              refine q_backV0 X hH (q_runV [.int l2, .int (v3 - 1), .int 0] [] X hH hl (c_X6_setTie l D cy G X.2.2.2.1 S l0 l2 (v3 - 1) 0 _ _ hf) mf_X6_setTie mv_X6_setTie tw_1052 ⟨Nat.le_of_ble_eq_true rfl, Nat.le_of_ble_eq_true rfl⟩ hb1 hb2 (T := TX6) (N := 6) rfl rfl (Nat.le_of_ble_eq_true rfl) dX6_dismiss_115 ⟨Nat.le_of_ble_eq_true rfl, Nat.le_of_ble_eq_true rfl⟩) (fun S4 hf H locs hH => ?_)
              refine lv_iinc (v := l2 + 1) (lv' := [(2, .int (l2 + 1)), (0, .ref l0), (1, .int l1)]) hx hb dX6_dismiss_118 hl (k := 2) rfl rfl (by decide) rfl (fun ls hl => ?_)
              refine lv_goto (tgt := 98) hx hb dX6_dismiss_121 (by decide) ?_
              exact ih98 S4 l0 l1 (l2 + 1) hf H locs ls hH (lv_sub hl [1, 2, 0] rfl)
        refine lv_iconst (v := 0) hx hb dX6_dismiss_96 (by decide) ?_
        refine lv_istore_n (lv' := [(2, .int 0), (0, .ref l0), (1, .int l1)]) hx hb dX6_dismiss_97 rfl hl (by decide) rfl (fun ls hl => ?_)
        exact hL98 4096 S l0 l1 0 hf H locs ls hH (lv_sub hl [1, 2, 0] rfl)
      have hL27 : ∀ (n27 : Nat) (S : PS) (l0 : Nat) (l1 : Int32) (l2 : Int32) (l3 : Int32), f_X6_dismiss_L27 post (f_X6_dismiss_L15 post n15) n27 S l0 l1 l2 l3 → ∀ (H : Heap) (locs : List Loc) (ls : Array Slot), p_H D cy S A s H locs → lv_has ls 6 [(0, .ref l0), (1, .int l1), (2, .int l2), (3, .int l3)] → W p l e rm_X6_dismiss s m [.ref a0, .int a1].toArray below meth c H locs 0 0 (MQ below (va_Qi post (p_Post D cy A) A) [.ref a0, .int a1].toArray s 0 0 A) (F0 m 27 ls []) := by
        intro n27
        induction n27 with
        | zero => intro S l0 l1 l2 l3 hf; exact hf.elim
        | succ n27 ih27 =>
          intro S l0 l1 l2 l3 hf H locs ls hH hl
          have hJ90 : ∀ (S : PS) (l0 : Nat) (l1 : Int32) (l2 : Int32), f_X6_dismiss_J90 post (f_X6_dismiss_L15 post n15) S l0 l1 l2 → ∀ (H : Heap) (locs : List Loc) (ls : Array Slot), p_H D cy S A s H locs → lv_has ls 6 [(0, .ref l0), (1, .int l1), (2, .int l2)] → W p l e rm_X6_dismiss s m [.ref a0, .int a1].toArray below meth c H locs 0 0 (MQ below (va_Qi post (p_Post D cy A) A) [.ref a0, .int a1].toArray s 0 0 A) (F0 m 90 ls []) := by
            intro S l0 l1 l2 hf H locs ls hH hl
            refine lv_iinc (v := l2 + 1) (lv' := [(2, .int (l2 + 1)), (0, .ref l0), (1, .int l1)]) hx hb dX6_dismiss_90 hl (k := 2) rfl rfl (by decide) rfl (fun ls hl => ?_)
            refine lv_goto (tgt := 15) hx hb dX6_dismiss_93 (by decide) ?_
            exact ih15 S l0 l1 (l2 + 1) hf H locs ls hH (lv_sub hl [1, 2, 0] rfl)
          have hJ49 : ∀ (S : PS) (l0 : Nat) (l1 : Int32) (l2 : Int32) (l3 : Int32) (t0 : Int32), f_X6_dismiss_J49 post (f_X6_dismiss_L27 post (f_X6_dismiss_L15 post n15) n27) S l0 l1 l2 l3 t0 → ∀ (H : Heap) (locs : List Loc) (ls : Array Slot), p_H D cy S A s H locs → lv_has ls 6 [(0, .ref l0), (1, .int l1), (2, .int l2), (3, .int l3)] → W p l e rm_X6_dismiss s m [.ref a0, .int a1].toArray below meth c H locs 0 0 (MQ below (va_Qi post (p_Post D cy A) A) [.ref a0, .int a1].toArray s 0 0 A) (F0 m 49 ls [.int t0]) := by
            intro S l0 l1 l2 l3 t0 hf H locs ls hH hl
            have hJ63 : ∀ (S : PS) (l0 : Nat) (l1 : Int32) (l2 : Int32) (l3 : Int32) (l4 : Int32) (t0 : Int32), f_X6_dismiss_J63 post (f_X6_dismiss_L27 post (f_X6_dismiss_L15 post n15) n27) S l0 l1 l2 l3 l4 t0 → ∀ (H : Heap) (locs : List Loc) (ls : Array Slot), p_H D cy S A s H locs → lv_has ls 6 [(0, .ref l0), (1, .int l1), (2, .int l2), (3, .int l3), (4, .int l4)] → W p l e rm_X6_dismiss s m [.ref a0, .int a1].toArray below meth c H locs 0 0 (MQ below (va_Qi post (p_Post D cy A) A) [.ref a0, .int a1].toArray s 0 0 A) (F0 m 63 ls [.int t0]) := by
              intro S l0 l1 l2 l3 l4 t0 hf H locs ls hH hl
              refine lv_istore (lv' := [(5, .int t0), (0, .ref l0), (1, .int l1), (2, .int l2), (3, .int l3), (4, .int l4)]) hx hb dX6_dismiss_63 hl (by decide) rfl (fun ls hl => ?_)
              refine lv_aload_n hx hb dX6_dismiss_65 rfl (lv_at hl 1 rfl) ?_
              refine q_getR (T := TX6) (N := 6) X hH hf iw_X6 rfl (by decide) tw_72 (fun _ h => h) dX6_dismiss_66 (fun v1 hf => ?_)
              refine lv_iload_n hx hb dX6_dismiss_69 rfl (lv_at hl 3 rfl) ?_
              refine lv_bipush (v := 9) hx hb dX6_dismiss_70 (by decide) ?_
              refine lv_imul hx hb dX6_dismiss_72 ?_
              refine lv_iload_n hx hb dX6_dismiss_73 rfl (lv_at hl 4 rfl) ?_
              refine lv_iadd hx hb dX6_dismiss_74 ?_
              refine lv_aload_n hx hb dX6_dismiss_75 rfl (lv_at hl 1 rfl) ?_
              refine lv_iload hx hb dX6_dismiss_76 (lv_at hl 5 rfl) ?_
              refine lv_iload hx hb dX6_dismiss_78 (lv_at hl 0 rfl) ?_
              obtain ⟨hb1, hb2, hf⟩ := hf
              refine q_backI0 X hH (q_runV [.int l4, .int t0] [.int ((l2 * 9) + l3), .ref v1] X hH hl (c_X6_tie l D cy G X.2.2.2.1 S l0 l4 t0 _ _ hf) mf_X6_tie mv_X6_tie tw_378 ⟨Nat.le_of_ble_eq_true rfl, Nat.le_of_ble_eq_true rfl⟩ hb1 hb2 (T := TX6) (N := 6) rfl rfl (Nat.le_of_ble_eq_true rfl) dX6_dismiss_80 ⟨Nat.le_of_ble_eq_true rfl, Nat.le_of_ble_eq_true rfl⟩) (fun v3 S2 hf H locs hH => ?_)
              refine q_iast X hH hf dX6_dismiss_83 (fun S4 hf H locs hH => ?_)
              refine lv_iinc (v := l3 + 1) (lv' := [(3, .int (l3 + 1)), (5, .int t0), (0, .ref l0), (1, .int l1), (2, .int l2), (4, .int l4)]) hx hb dX6_dismiss_84 hl (k := 4) rfl rfl (by decide) rfl (fun ls hl => ?_)
              refine lv_goto (tgt := 27) hx hb dX6_dismiss_87 (by decide) ?_
              exact ih27 S4 l0 l1 l2 (l3 + 1) hf H locs ls hH (lv_sub hl [2, 3, 4, 0] rfl)
            refine lv_istore (lv' := [(4, .int t0), (0, .ref l0), (1, .int l1), (2, .int l2), (3, .int l3)]) hx hb dX6_dismiss_49 hl (by decide) rfl (fun ls hl => ?_)
            refine lv_iload_n hx hb dX6_dismiss_51 rfl (lv_at hl 4 rfl) ?_
            refine lv_iload_n hx hb dX6_dismiss_52 rfl (lv_at hl 2 rfl) ?_
            refine lv_icmp_ge (tgt := 60) hx hb dX6_dismiss_53 (by decide) (fun c1 => ?_) (fun c1 => ?_)
            · have hf := (if_pos c1).mp hf
              refine lv_iload_n hx hb dX6_dismiss_60 rfl (lv_at hl 4 rfl) ?_
              refine lv_iconst (v := 1) hx hb dX6_dismiss_61 (by decide) ?_
              refine lv_iadd hx hb dX6_dismiss_62 ?_
              exact hJ63 S l0 l1 l2 l3 t0 (l3 + 1) hf H locs ls hH (lv_sub hl [1, 2, 3, 4, 0] rfl)
            · have hf := (if_neg c1).mp hf
              refine lv_iload_n hx hb dX6_dismiss_56 rfl (lv_at hl 4 rfl) ?_
              refine lv_goto (tgt := 63) hx hb dX6_dismiss_57 (by decide) ?_
              exact hJ63 S l0 l1 l2 l3 t0 l3 hf H locs ls hH (lv_sub hl [1, 2, 3, 4, 0] rfl)
          refine lv_iload_n hx hb dX6_dismiss_27 rfl (lv_at hl 3 rfl) ?_
          refine lv_aload_n hx hb dX6_dismiss_28 rfl (lv_at hl 0 rfl) ?_
          refine q_getI (T := TX6) (N := 6) X hH hf iw_X6 rfl (by decide) tw_73 (fun _ h => h) dX6_dismiss_29 (fun v1 hf => ?_)
          refine lv_iconst (v := 1) hx hb dX6_dismiss_32 (by decide) ?_
          refine lv_isub hx hb dX6_dismiss_33 ?_
          refine lv_icmp_ge (tgt := 90) hx hb dX6_dismiss_34 (by decide) (fun c2 => ?_) (fun c2 => ?_)
          · have hf := (if_pos c2).mp hf
            exact hJ90 S l0 l1 l2 hf H locs ls hH (lv_sub hl [0, 1, 2] rfl)
          · have hf := (if_neg c2).mp hf
            refine lv_iload_n hx hb dX6_dismiss_37 rfl (lv_at hl 2 rfl) ?_
            refine lv_iload_n hx hb dX6_dismiss_38 rfl (lv_at hl 1 rfl) ?_
            refine lv_icmp_ge (tgt := 46) hx hb dX6_dismiss_39 (by decide) (fun c3 => ?_) (fun c3 => ?_)
            · have hf := (if_pos c3).mp hf
              refine lv_iload_n hx hb dX6_dismiss_46 rfl (lv_at hl 2 rfl) ?_
              refine lv_iconst (v := 1) hx hb dX6_dismiss_47 (by decide) ?_
              refine lv_iadd hx hb dX6_dismiss_48 ?_
              exact hJ49 S l0 l1 l2 l3 (l2 + 1) hf H locs ls hH hl
            · have hf := (if_neg c3).mp hf
              refine lv_iload_n hx hb dX6_dismiss_42 rfl (lv_at hl 2 rfl) ?_
              refine lv_goto (tgt := 49) hx hb dX6_dismiss_43 (by decide) ?_
              exact hJ49 S l0 l1 l2 l3 l2 hf H locs ls hH hl
      refine lv_iload_n hx hb dX6_dismiss_15 rfl (lv_at hl 2 rfl) ?_
      refine lv_aload_n hx hb dX6_dismiss_16 rfl (lv_at hl 0 rfl) ?_
      refine q_getI (T := TX6) (N := 6) X hH hf iw_X6 rfl (by decide) tw_73 (fun _ h => h) dX6_dismiss_17 (fun v1 hf => ?_)
      refine lv_iconst (v := 1) hx hb dX6_dismiss_20 (by decide) ?_
      refine lv_isub hx hb dX6_dismiss_21 ?_
      refine lv_icmp_ge (tgt := 96) hx hb dX6_dismiss_22 (by decide) (fun c2 => ?_) (fun c2 => ?_)
      · have hf := (if_pos c2).mp hf
        exact hJ96 S l0 l1 hf H locs ls hH (lv_sub hl [0, 1] rfl)
      · have hf := (if_neg c2).mp hf
        refine lv_iconst (v := 0) hx hb dX6_dismiss_25 (by decide) ?_
        refine lv_istore_n (lv' := [(3, .int 0), (0, .ref l0), (1, .int l1), (2, .int l2)]) hx hb dX6_dismiss_26 rfl hl (by decide) rfl (fun ls hl => ?_)
        exact hL27 4096 S l0 l1 l2 0 hf H locs ls hH (lv_sub hl [1, 2, 3, 0] rfl)
  refine lv_aload_n hx hb dX6_dismiss_0 rfl (lv_at hl 0 rfl) ?_
  refine lv_iload_n hx hb dX6_dismiss_1 rfl (lv_at hl 1 rfl) ?_
  obtain ⟨hb1, hb2, hf⟩ := hf
  refine q_backI0 X hH (q_runV [.int a1] [] X hH hl (c_X6_has l D cy G X.2.2.2.1 S a0 a1 _ _ hf) mf_X6_has mv_X6_has tw_382 ⟨Nat.le_of_ble_eq_true rfl, Nat.le_of_ble_eq_true rfl⟩ hb1 hb2 (T := TX6) (N := 6) rfl rfl (Nat.le_of_ble_eq_true rfl) dX6_dismiss_2 ⟨Nat.le_of_ble_eq_true rfl, Nat.le_of_ble_eq_true rfl⟩) (fun v2 S1 hf H locs hH => ?_)
  refine lv_if_ne (tgt := 13) hx hb dX6_dismiss_5 (by decide) (fun c3 => ?_) (fun c3 => ?_)
  · have hf := (if_neg c3).mp hf
    refine lv_iconst (v := 0) hx hb dX6_dismiss_13 (by decide) ?_
    refine lv_istore_n (lv' := [(2, .int 0), (0, .ref a0), (1, .int a1)]) hx hb dX6_dismiss_14 rfl hl (by decide) rfl (fun ls hl => ?_)
    exact hL15 4096 S1 a0 a1 0 hf H locs ls hH (lv_sub hl [1, 2, 0] rfl)
  · have hf := (if_pos c3).mp hf
    refine lv_aload_n hx hb dX6_dismiss_8 rfl (lv_at hl 0 rfl) ?_
    refine q_getI (T := TX6) (N := 6) X hH hf iw_X6 rfl (by decide) tw_73 (fun _ h => h) dX6_dismiss_9 (fun v4 hf => ?_)
    exact q_retI X hH hr hlk hf (Nat.zero_le _) (Nat.zero_le _) dX6_dismiss_12
-- X6_retie
def f_X6_retie (S : PS) (a0 : Nat) (a1 : Int32) (a2 : Int32) (a3 : Int32) (post : Int32 → PS → Prop) : Prop :=
  isO S a0 10 (
  f_X6_tie S a0 a1 a2 fun v2 S1 => (
  isO S1 a0 10 (
  f_X6_setTie S1 a0 a1 a2 a3 fun S3 => (
  post v2 S3))))
abbrev rm_X6_retie : Room := { frames := 2, cells := 0, slots := 0, locals := 44 }
set_option maxHeartbeats 4000000 in
set_option maxRecDepth 100000 in
theorem c_X6_retie (l : Launch) (D : va_G) (cy : Nat → ClassId) (G : p_GT) (hG : p_ok G) (S : PS) (a0 : Nat) (a1 : Int32) (a2 : Int32) (a3 : Int32) (post : Int32 → PS → Prop) (sz : Nat) (hf : f_X6_retie S a0 a1 a2 a3 post) : p_Mi l D cy G S sz yX6_retie (Cond.code yX6_retie cX6_retie 5 (some .int) :: wG) rm_X6_retie [.ref a0, .int a1, .int a2, .int a3] 0 0 post := by
  refine q_start hG (Qc := fun A => va_Qi post (p_Post D cy A) A) mf_X6_retie (Nat.le_of_ble_eq_true rfl) (own := RX6) rfl ?_
  intro p e s m below meth c A X hr hlk hnm ls hl hH
  have hx := X.1.1
  have hb := X.1.2.1
  replace hl : lv_has ls 5 [(0, .ref a0), (1, .int a1), (2, .int a2), (3, .int a3)] := hl
  obtain ⟨H, hHe⟩ : ∃ H, H = s.heap := ⟨_, rfl⟩
  obtain ⟨locs, hlo⟩ : ∃ locs : List Loc, locs = [] := ⟨_, rfl⟩
  rw [← hHe, ← hlo] at hH
  show W p l e rm_X6_retie s m [.ref a0, .int a1, .int a2, .int a3].toArray below meth c s.heap [] 0 0 _ _
  rw [← hHe, ← hlo]
  refine lv_aload_n hx hb dX6_retie_0 rfl (lv_at hl 0 rfl) ?_
  refine lv_iload_n hx hb dX6_retie_1 rfl (lv_at hl 1 rfl) ?_
  refine lv_iload_n hx hb dX6_retie_2 rfl (lv_at hl 2 rfl) ?_
  obtain ⟨hb1, hb2, hf⟩ := hf
  refine q_backI0 X hH (q_runV [.int a1, .int a2] [] X hH hl (c_X6_tie l D cy G X.2.2.2.1 S a0 a1 a2 _ _ hf) mf_X6_tie mv_X6_tie tw_378 ⟨Nat.le_of_ble_eq_true rfl, Nat.le_of_ble_eq_true rfl⟩ hb1 hb2 (T := TX6) (N := 6) rfl rfl (Nat.le_of_ble_eq_true rfl) dX6_retie_3 ⟨Nat.le_of_ble_eq_true rfl, Nat.le_of_ble_eq_true rfl⟩) (fun v2 S1 hf H locs hH => ?_)
  refine lv_istore (lv' := [(4, .int v2), (0, .ref a0), (1, .int a1), (2, .int a2), (3, .int a3)]) hx hb dX6_retie_6 hl (by decide) rfl (fun ls hl => ?_)
  refine lv_aload_n hx hb dX6_retie_8 rfl (lv_at hl 1 rfl) ?_
  refine lv_iload_n hx hb dX6_retie_9 rfl (lv_at hl 2 rfl) ?_
  refine lv_iload_n hx hb dX6_retie_10 rfl (lv_at hl 3 rfl) ?_
  refine lv_iload_n hx hb dX6_retie_11 rfl (lv_at hl 4 rfl) ?_
  obtain ⟨hb1, hb2, hf⟩ := hf
  refine q_backV0 X hH (q_runV [.int a1, .int a2, .int a3] [] X hH hl (c_X6_setTie l D cy G X.2.2.2.1 S1 a0 a1 a2 a3 _ _ hf) mf_X6_setTie mv_X6_setTie tw_1052 ⟨Nat.le_of_ble_eq_true rfl, Nat.le_of_ble_eq_true rfl⟩ hb1 hb2 (T := TX6) (N := 6) rfl rfl (Nat.le_of_ble_eq_true rfl) dX6_retie_12 ⟨Nat.le_of_ble_eq_true rfl, Nat.le_of_ble_eq_true rfl⟩) (fun S3 hf H locs hH => ?_)
  refine lv_iload hx hb dX6_retie_15 (lv_at hl 0 rfl) ?_
  exact q_retI X hH hr hlk hf (Nat.zero_le _) (Nat.zero_le _) dX6_retie_17
-- X6_unite
def f_X6_unite_J45 (post : Int32 → PS → Prop) (S : PS) (l0 : Nat) (l1 : Int32) (l2 : Int32) : Prop :=
  isO S l0 10 (
  f_X6_dismiss S l0 l2 fun v2 S1 => (
  gI S1 l0 10 5 fun v3 => (
  pV S1 l0 10 5 (.int (v3 + 1)) fun S4 => (
  if l1 ≤ l2 then
    post l1 S4
  else
    post (l1 - 1) S4))))
def f_X6_unite_J39 (post : Int32 → PS → Prop) (g2 : PS → Nat → Int32 → Int32 → Int32 → Prop) (S : PS) (l0 : Nat) (l1 : Int32) (l2 : Int32) (l3 : Int32) : Prop :=
  g2 S l0 l1 l2 (l3 + 1)
def f_X6_unite_L2 (post : Int32 → PS → Prop) : Nat → PS → Nat → Int32 → Int32 → Int32 → Prop
  | 0, _, _, _, _, _ => False
  | n + 1, S, l0, l1, l2, l3 =>
  gI S l0 10 1 fun v1 => (
  if v1 ≤ l3 then
    f_X6_unite_J45 post S l0 l1 l2
  else
    if l3 = l1 then
      f_X6_unite_J39 post (f_X6_unite_L2 post n) S l0 l1 l2 l3
    else
      if l3 = l2 then
        f_X6_unite_J39 post (f_X6_unite_L2 post n) S l0 l1 l2 l3
      else
        isO S l0 10 (
        f_X6_tie S l0 l1 l3 fun v6 S5 => (
        isO S5 l0 10 (
        f_X6_tie S5 l0 l2 l3 fun v8 S7 => (
        isO S7 l0 10 (
        f_X6_setTie S7 l0 l1 l3 (v6 + v8) fun S9 => (
        f_X6_unite_J39 post (f_X6_unite_L2 post n) S9 l0 l1 l2 l3)))))))
def f_X6_unite (S : PS) (a0 : Nat) (a1 : Int32) (a2 : Int32) (post : Int32 → PS → Prop) : Prop :=
  f_X6_unite_L2 post 4096 S a0 a1 a2 0
abbrev rm_X6_unite : Room := { frames := 3, cells := 0, slots := 0, locals := 69 }
set_option maxHeartbeats 4000000 in
set_option maxRecDepth 100000 in
theorem c_X6_unite (l : Launch) (D : va_G) (cy : Nat → ClassId) (G : p_GT) (hG : p_ok G) (S : PS) (a0 : Nat) (a1 : Int32) (a2 : Int32) (post : Int32 → PS → Prop) (sz : Nat) (hf : f_X6_unite S a0 a1 a2 post) : p_Mi l D cy G S sz yX6_unite (Cond.code yX6_unite cX6_unite 4 (some .int) :: wG) rm_X6_unite [.ref a0, .int a1, .int a2] 0 0 post := by
  refine q_start hG (Qc := fun A => va_Qi post (p_Post D cy A) A) mf_X6_unite (Nat.le_of_ble_eq_true rfl) (own := RX6) rfl ?_
  intro p e s m below meth c A X hr hlk hnm ls hl hH
  have hx := X.1.1
  have hb := X.1.2.1
  replace hl : lv_has ls 4 [(0, .ref a0), (1, .int a1), (2, .int a2)] := hl
  obtain ⟨H, hHe⟩ : ∃ H, H = s.heap := ⟨_, rfl⟩
  obtain ⟨locs, hlo⟩ : ∃ locs : List Loc, locs = [] := ⟨_, rfl⟩
  rw [← hHe, ← hlo] at hH
  show W p l e rm_X6_unite s m [.ref a0, .int a1, .int a2].toArray below meth c s.heap [] 0 0 _ _
  rw [← hHe, ← hlo]
  have hL2 : ∀ (n2 : Nat) (S : PS) (l0 : Nat) (l1 : Int32) (l2 : Int32) (l3 : Int32), f_X6_unite_L2 post n2 S l0 l1 l2 l3 → ∀ (H : Heap) (locs : List Loc) (ls : Array Slot), p_H D cy S A s H locs → lv_has ls 4 [(0, .ref l0), (1, .int l1), (2, .int l2), (3, .int l3)] → W p l e rm_X6_unite s m [.ref a0, .int a1, .int a2].toArray below meth c H locs 0 0 (MQ below (va_Qi post (p_Post D cy A) A) [.ref a0, .int a1, .int a2].toArray s 0 0 A) (F0 m 2 ls []) := by
    intro n2
    induction n2 with
    | zero => intro S l0 l1 l2 l3 hf; exact hf.elim
    | succ n2 ih2 =>
      intro S l0 l1 l2 l3 hf H locs ls hH hl
      have hJ45 : ∀ (S : PS) (l0 : Nat) (l1 : Int32) (l2 : Int32), f_X6_unite_J45 post S l0 l1 l2 → ∀ (H : Heap) (locs : List Loc) (ls : Array Slot), p_H D cy S A s H locs → lv_has ls 4 [(0, .ref l0), (1, .int l1), (2, .int l2)] → W p l e rm_X6_unite s m [.ref a0, .int a1, .int a2].toArray below meth c H locs 0 0 (MQ below (va_Qi post (p_Post D cy A) A) [.ref a0, .int a1, .int a2].toArray s 0 0 A) (F0 m 45 ls []) := by
        intro S l0 l1 l2 hf H locs ls hH hl
        refine lv_aload_n hx hb dX6_unite_45 rfl (lv_at hl 0 rfl) ?_
        refine lv_iload_n hx hb dX6_unite_46 rfl (lv_at hl 2 rfl) ?_
        obtain ⟨hb1, hb2, hf⟩ := hf
        refine q_backI0 X hH (q_runV [.int l2] [] X hH hl (c_X6_dismiss l D cy G X.2.2.2.1 S l0 l2 _ _ hf) mf_X6_dismiss mv_X6_dismiss tw_1064 ⟨Nat.le_of_ble_eq_true rfl, Nat.le_of_ble_eq_true rfl⟩ hb1 hb2 (T := TX6) (N := 6) rfl rfl (Nat.le_of_ble_eq_true rfl) dX6_unite_47 ⟨Nat.le_of_ble_eq_true rfl, Nat.le_of_ble_eq_true rfl⟩) (fun v2 S1 hf H locs hH => ?_)
        refine lv_pop hx hb dX6_unite_50 rfl ?_
        refine lv_aload_n hx hb dX6_unite_51 rfl (lv_at hl 0 rfl) ?_
        refine lv_dup hx hb dX6_unite_52 rfl ?_
        refine q_getI (T := TX6) (N := 6) X hH hf iw_X6 rfl (by decide) tw_83 (fun _ h => h) dX6_unite_53 (fun v3 hf => ?_)
        refine lv_iconst (v := 1) hx hb dX6_unite_56 (by decide) ?_
        refine lv_iadd hx hb dX6_unite_57 ?_
        refine q_putV (T := TX6) (N := 6) (ty0 := tyX6) (ty := tyX6 5) X hH hf iw_X6 tyX6_ok nmX6 rfl (by decide) tw_83 (fun _ h => h) rfl (tyX6_ok 5 (by decide)) rfl rfl dX6_unite_58 (fun S4 hf H locs hH => ?_)
        refine lv_iload_n hx hb dX6_unite_61 rfl (lv_at hl 2 rfl) ?_
        refine lv_iload_n hx hb dX6_unite_62 rfl (lv_at hl 1 rfl) ?_
        refine lv_icmp_ge (tgt := 72) hx hb dX6_unite_63 (by decide) (fun c5 => ?_) (fun c5 => ?_)
        · have hf := (if_pos c5).mp hf
          refine lv_iload_n hx hb dX6_unite_72 rfl (lv_at hl 1 rfl) ?_
          exact q_retI X hH hr hlk hf (Nat.zero_le _) (Nat.zero_le _) dX6_unite_73
        · have hf := (if_neg c5).mp hf
          refine lv_iload_n hx hb dX6_unite_66 rfl (lv_at hl 1 rfl) ?_
          refine lv_iconst (v := 1) hx hb dX6_unite_67 (by decide) ?_
          refine lv_isub hx hb dX6_unite_68 ?_
          refine lv_goto (tgt := 73) hx hb dX6_unite_69 (by decide) ?_
          exact q_retI X hH hr hlk hf (Nat.zero_le _) (Nat.zero_le _) dX6_unite_73
      have hJ39 : ∀ (S : PS) (l0 : Nat) (l1 : Int32) (l2 : Int32) (l3 : Int32), f_X6_unite_J39 post (f_X6_unite_L2 post n2) S l0 l1 l2 l3 → ∀ (H : Heap) (locs : List Loc) (ls : Array Slot), p_H D cy S A s H locs → lv_has ls 4 [(0, .ref l0), (1, .int l1), (2, .int l2), (3, .int l3)] → W p l e rm_X6_unite s m [.ref a0, .int a1, .int a2].toArray below meth c H locs 0 0 (MQ below (va_Qi post (p_Post D cy A) A) [.ref a0, .int a1, .int a2].toArray s 0 0 A) (F0 m 39 ls []) := by
        intro S l0 l1 l2 l3 hf H locs ls hH hl
        refine lv_iinc (v := l3 + 1) (lv' := [(3, .int (l3 + 1)), (0, .ref l0), (1, .int l1), (2, .int l2)]) hx hb dX6_unite_39 hl (k := 3) rfl rfl (by decide) rfl (fun ls hl => ?_)
        refine lv_goto (tgt := 2) hx hb dX6_unite_42 (by decide) ?_
        exact ih2 S l0 l1 l2 (l3 + 1) hf H locs ls hH (lv_sub hl [1, 2, 3, 0] rfl)
      refine lv_iload_n hx hb dX6_unite_2 rfl (lv_at hl 3 rfl) ?_
      refine lv_aload_n hx hb dX6_unite_3 rfl (lv_at hl 0 rfl) ?_
      refine q_getI (T := TX6) (N := 6) X hH hf iw_X6 rfl (by decide) tw_73 (fun _ h => h) dX6_unite_4 (fun v1 hf => ?_)
      refine lv_icmp_ge (tgt := 45) hx hb dX6_unite_7 (by decide) (fun c2 => ?_) (fun c2 => ?_)
      · have hf := (if_pos c2).mp hf
        exact hJ45 S l0 l1 l2 hf H locs ls hH (lv_sub hl [0, 1, 2] rfl)
      · have hf := (if_neg c2).mp hf
        refine lv_iload_n hx hb dX6_unite_10 rfl (lv_at hl 3 rfl) ?_
        refine lv_iload_n hx hb dX6_unite_11 rfl (lv_at hl 1 rfl) ?_
        refine lv_icmp_eq (tgt := 39) hx hb dX6_unite_12 (by decide) (fun c3 => ?_) (fun c3 => ?_)
        · have hf := (if_pos c3).mp hf
          exact hJ39 S l0 l1 l2 l3 hf H locs ls hH hl
        · have hf := (if_neg c3).mp hf
          refine lv_iload_n hx hb dX6_unite_15 rfl (lv_at hl 3 rfl) ?_
          refine lv_iload_n hx hb dX6_unite_16 rfl (lv_at hl 2 rfl) ?_
          refine lv_icmp_eq (tgt := 39) hx hb dX6_unite_17 (by decide) (fun c4 => ?_) (fun c4 => ?_)
          · have hf := (if_pos c4).mp hf
            exact hJ39 S l0 l1 l2 l3 hf H locs ls hH hl
          · have hf := (if_neg c4).mp hf
            refine lv_aload_n hx hb dX6_unite_20 rfl (lv_at hl 0 rfl) ?_
            refine lv_iload_n hx hb dX6_unite_21 rfl (lv_at hl 1 rfl) ?_
            refine lv_iload_n hx hb dX6_unite_22 rfl (lv_at hl 3 rfl) ?_
            refine lv_aload_n hx hb dX6_unite_23 rfl (lv_at hl 0 rfl) ?_
            refine lv_iload_n hx hb dX6_unite_24 rfl (lv_at hl 1 rfl) ?_
            refine lv_iload_n hx hb dX6_unite_25 rfl (lv_at hl 3 rfl) ?_
            obtain ⟨hb1, hb2, hf⟩ := hf
            refine q_backI0 X hH (q_runV [.int l1, .int l3] [.int l3, .int l1, .ref l0] X hH hl (c_X6_tie l D cy G X.2.2.2.1 S l0 l1 l3 _ _ hf) mf_X6_tie mv_X6_tie tw_378 ⟨Nat.le_of_ble_eq_true rfl, Nat.le_of_ble_eq_true rfl⟩ hb1 hb2 (T := TX6) (N := 6) rfl rfl (Nat.le_of_ble_eq_true rfl) dX6_unite_26 ⟨Nat.le_of_ble_eq_true rfl, Nat.le_of_ble_eq_true rfl⟩) (fun v6 S5 hf H locs hH => ?_)
            refine lv_aload_n hx hb dX6_unite_29 rfl (lv_at hl 0 rfl) ?_
            refine lv_iload_n hx hb dX6_unite_30 rfl (lv_at hl 2 rfl) ?_
            refine lv_iload_n hx hb dX6_unite_31 rfl (lv_at hl 3 rfl) ?_
            obtain ⟨hb1, hb2, hf⟩ := hf
            refine q_backI0 X hH (q_runV [.int l2, .int l3] [.int v6, .int l3, .int l1, .ref l0] X hH hl (c_X6_tie l D cy G X.2.2.2.1 S5 l0 l2 l3 _ _ hf) mf_X6_tie mv_X6_tie tw_378 ⟨Nat.le_of_ble_eq_true rfl, Nat.le_of_ble_eq_true rfl⟩ hb1 hb2 (T := TX6) (N := 6) rfl rfl (Nat.le_of_ble_eq_true rfl) dX6_unite_32 ⟨Nat.le_of_ble_eq_true rfl, Nat.le_of_ble_eq_true rfl⟩) (fun v8 S7 hf H locs hH => ?_)
            refine lv_iadd hx hb dX6_unite_35 ?_
            obtain ⟨hb1, hb2, hf⟩ := hf
            refine q_backV0 X hH (q_runV [.int l1, .int l3, .int (v6 + v8)] [] X hH hl (c_X6_setTie l D cy G X.2.2.2.1 S7 l0 l1 l3 (v6 + v8) _ _ hf) mf_X6_setTie mv_X6_setTie tw_1052 ⟨Nat.le_of_ble_eq_true rfl, Nat.le_of_ble_eq_true rfl⟩ hb1 hb2 (T := TX6) (N := 6) rfl rfl (Nat.le_of_ble_eq_true rfl) dX6_unite_36 ⟨Nat.le_of_ble_eq_true rfl, Nat.le_of_ble_eq_true rfl⟩) (fun S9 hf H locs hH => ?_)
            exact hJ39 S9 l0 l1 l2 l3 hf H locs ls hH hl
  refine lv_iconst (v := 0) hx hb dX6_unite_0 (by decide) ?_
  refine lv_istore_n (lv' := [(3, .int 0), (0, .ref a0), (1, .int a1), (2, .int a2)]) hx hb dX6_unite_1 rfl hl (by decide) rfl (fun ls hl => ?_)
  exact hL2 4096 S a0 a1 a2 0 hf H locs ls hH (lv_sub hl [1, 2, 3, 0] rfl)
-- X6_tieToSet
def f_X6_tieToSet_J33 (post : Int32 → PS → Prop) (g5 : PS → Nat → Int32 → Int32 → Int32 → Int32 → Prop) (S : PS) (l0 : Nat) (l1 : Int32) (l2 : Int32) (l3 : Int32) (l4 : Int32) : Prop :=
  g5 S l0 l1 l2 l3 (l4 + 1)
def f_X6_tieToSet_L5 (post : Int32 → PS → Prop) : Nat → PS → Nat → Int32 → Int32 → Int32 → Int32 → Prop
  | 0, _, _, _, _, _, _ => False
  | n + 1, S, l0, l1, l2, l3, l4 =>
  gI S l0 10 1 fun v1 => (
  if v1 ≤ l4 then
    post l3 S
  else
    f_X7_isIn S l2 l4 fun v4 S3 => (
    if v4 = 0 then
      f_X6_tieToSet_J33 post (f_X6_tieToSet_L5 post n) S3 l0 l1 l2 l3 l4
    else
      isO S3 l0 10 (
      f_X6_tie S3 l0 l1 l4 fun v7 S6 => (
      f_X6_tieToSet_J33 post (f_X6_tieToSet_L5 post n) S6 l0 l1 l2 (l3 + v7) l4))))
def f_X6_tieToSet (S : PS) (a0 : Nat) (a1 : Int32) (a2 : Int32) (post : Int32 → PS → Prop) : Prop :=
  f_X6_tieToSet_L5 post 4096 S a0 a1 a2 0 0
abbrev rm_X6_tieToSet : Room := { frames := 2, cells := 0, slots := 0, locals := 43 }
set_option maxHeartbeats 4000000 in
set_option maxRecDepth 100000 in
theorem c_X6_tieToSet (l : Launch) (D : va_G) (cy : Nat → ClassId) (G : p_GT) (hG : p_ok G) (S : PS) (a0 : Nat) (a1 : Int32) (a2 : Int32) (post : Int32 → PS → Prop) (sz : Nat) (hf : f_X6_tieToSet S a0 a1 a2 post) : p_Mi l D cy G S sz yX6_tieToSet (Cond.code yX6_tieToSet cX6_tieToSet 5 (some .int) :: wG) rm_X6_tieToSet [.ref a0, .int a1, .int a2] 0 0 post := by
  refine q_start hG (Qc := fun A => va_Qi post (p_Post D cy A) A) mf_X6_tieToSet (Nat.le_of_ble_eq_true rfl) (own := RX6) rfl ?_
  intro p e s m below meth c A X hr hlk hnm ls hl hH
  have hx := X.1.1
  have hb := X.1.2.1
  replace hl : lv_has ls 5 [(0, .ref a0), (1, .int a1), (2, .int a2)] := hl
  obtain ⟨H, hHe⟩ : ∃ H, H = s.heap := ⟨_, rfl⟩
  obtain ⟨locs, hlo⟩ : ∃ locs : List Loc, locs = [] := ⟨_, rfl⟩
  rw [← hHe, ← hlo] at hH
  show W p l e rm_X6_tieToSet s m [.ref a0, .int a1, .int a2].toArray below meth c s.heap [] 0 0 _ _
  rw [← hHe, ← hlo]
  have hL5 : ∀ (n5 : Nat) (S : PS) (l0 : Nat) (l1 : Int32) (l2 : Int32) (l3 : Int32) (l4 : Int32), f_X6_tieToSet_L5 post n5 S l0 l1 l2 l3 l4 → ∀ (H : Heap) (locs : List Loc) (ls : Array Slot), p_H D cy S A s H locs → lv_has ls 5 [(0, .ref l0), (1, .int l1), (2, .int l2), (3, .int l3), (4, .int l4)] → W p l e rm_X6_tieToSet s m [.ref a0, .int a1, .int a2].toArray below meth c H locs 0 0 (MQ below (va_Qi post (p_Post D cy A) A) [.ref a0, .int a1, .int a2].toArray s 0 0 A) (F0 m 5 ls []) := by
    intro n5
    induction n5 with
    | zero => intro S l0 l1 l2 l3 l4 hf; exact hf.elim
    | succ n5 ih5 =>
      intro S l0 l1 l2 l3 l4 hf H locs ls hH hl
      have hJ33 : ∀ (S : PS) (l0 : Nat) (l1 : Int32) (l2 : Int32) (l3 : Int32) (l4 : Int32), f_X6_tieToSet_J33 post (f_X6_tieToSet_L5 post n5) S l0 l1 l2 l3 l4 → ∀ (H : Heap) (locs : List Loc) (ls : Array Slot), p_H D cy S A s H locs → lv_has ls 5 [(0, .ref l0), (1, .int l1), (2, .int l2), (3, .int l3), (4, .int l4)] → W p l e rm_X6_tieToSet s m [.ref a0, .int a1, .int a2].toArray below meth c H locs 0 0 (MQ below (va_Qi post (p_Post D cy A) A) [.ref a0, .int a1, .int a2].toArray s 0 0 A) (F0 m 33 ls []) := by
        intro S l0 l1 l2 l3 l4 hf H locs ls hH hl
        refine lv_iinc (v := l4 + 1) (lv' := [(4, .int (l4 + 1)), (0, .ref l0), (1, .int l1), (2, .int l2), (3, .int l3)]) hx hb dX6_tieToSet_33 hl (k := 4) rfl rfl (by decide) rfl (fun ls hl => ?_)
        refine lv_goto (tgt := 5) hx hb dX6_tieToSet_36 (by decide) ?_
        exact ih5 S l0 l1 l2 l3 (l4 + 1) hf H locs ls hH (lv_sub hl [1, 2, 3, 4, 0] rfl)
      refine lv_iload hx hb dX6_tieToSet_5 (lv_at hl 4 rfl) ?_
      refine lv_aload_n hx hb dX6_tieToSet_7 rfl (lv_at hl 0 rfl) ?_
      refine q_getI (T := TX6) (N := 6) X hH hf iw_X6 rfl (by decide) tw_73 (fun _ h => h) dX6_tieToSet_8 (fun v1 hf => ?_)
      refine lv_icmp_ge (tgt := 39) hx hb dX6_tieToSet_11 (by decide) (fun c2 => ?_) (fun c2 => ?_)
      · have hf := (if_pos c2).mp hf
        refine lv_iload_n hx hb dX6_tieToSet_39 rfl (lv_at hl 3 rfl) ?_
        exact q_retI X hH hr hlk hf (Nat.zero_le _) (Nat.zero_le _) dX6_tieToSet_40
      · have hf := (if_neg c2).mp hf
        refine lv_iload_n hx hb dX6_tieToSet_14 rfl (lv_at hl 2 rfl) ?_
        refine lv_iload hx hb dX6_tieToSet_15 (lv_at hl 4 rfl) ?_
        refine q_backI0 X hH (q_runSN [.int l2, .int l4] [] X hH hl (c_X7_isIn l D cy G X.2.2.2.1 S l2 l4 _ _ hf) mf_X7_isIn tw_372 (List.mem_of_getElem? (i := 20) rfl) ⟨Nat.le_of_ble_eq_true rfl, Nat.le_of_ble_eq_true rfl⟩ rfl (Nat.le_of_ble_eq_true rfl) dX6_tieToSet_17 ⟨Nat.le_of_ble_eq_true rfl, Nat.le_of_ble_eq_true rfl⟩) (fun v4 S3 hf H locs hH => ?_)
        refine lv_if_eq (tgt := 33) hx hb dX6_tieToSet_20 (by decide) (fun c5 => ?_) (fun c5 => ?_)
        · have hf := (if_pos c5).mp hf
          exact hJ33 S3 l0 l1 l2 l3 l4 hf H locs ls hH hl
        · have hf := (if_neg c5).mp hf
          refine lv_iload_n hx hb dX6_tieToSet_23 rfl (lv_at hl 3 rfl) ?_
          refine lv_aload_n hx hb dX6_tieToSet_24 rfl (lv_at hl 0 rfl) ?_
          refine lv_iload_n hx hb dX6_tieToSet_25 rfl (lv_at hl 1 rfl) ?_
          refine lv_iload hx hb dX6_tieToSet_26 (lv_at hl 4 rfl) ?_
          obtain ⟨hb1, hb2, hf⟩ := hf
          refine q_backI0 X hH (q_runV [.int l1, .int l4] [.int l3] X hH hl (c_X6_tie l D cy G X.2.2.2.1 S3 l0 l1 l4 _ _ hf) mf_X6_tie mv_X6_tie tw_378 ⟨Nat.le_of_ble_eq_true rfl, Nat.le_of_ble_eq_true rfl⟩ hb1 hb2 (T := TX6) (N := 6) rfl rfl (Nat.le_of_ble_eq_true rfl) dX6_tieToSet_28 ⟨Nat.le_of_ble_eq_true rfl, Nat.le_of_ble_eq_true rfl⟩) (fun v7 S6 hf H locs hH => ?_)
          refine lv_iadd hx hb dX6_tieToSet_31 ?_
          refine lv_istore_n (lv' := [(3, .int (l3 + v7)), (0, .ref l0), (1, .int l1), (2, .int l2), (4, .int l4)]) hx hb dX6_tieToSet_32 rfl hl (by decide) rfl (fun ls hl => ?_)
          exact hJ33 S6 l0 l1 l2 (l3 + v7) l4 hf H locs ls hH (lv_sub hl [1, 2, 3, 0, 4] rfl)
  refine lv_iconst (v := 0) hx hb dX6_tieToSet_0 (by decide) ?_
  refine lv_istore_n (lv' := [(3, .int 0), (0, .ref a0), (1, .int a1), (2, .int a2)]) hx hb dX6_tieToSet_1 rfl hl (by decide) rfl (fun ls hl => ?_)
  refine lv_iconst (v := 0) hx hb dX6_tieToSet_2 (by decide) ?_
  refine lv_istore (lv' := [(4, .int 0), (3, .int 0), (0, .ref a0), (1, .int a1), (2, .int a2)]) hx hb dX6_tieToSet_3 hl (by decide) rfl (fun ls hl => ?_)
  exact hL5 4096 S a0 a1 a2 0 0 hf H locs ls hH (lv_sub hl [2, 3, 4, 1, 0] rfl)
-- X6_feudByBonds
def f_X6_feudByBonds_J52 (post : Int32 → PS → Prop) (g4 : PS → Nat → Int32 → Int32 → Prop) (S : PS) (l0 : Nat) (l1 : Int32) (l2 : Int32) : Prop :=
  g4 S l0 l1 (l2 + 1)
def f_X6_feudByBonds_J46 (post : Int32 → PS → Prop) (g16 : PS → Nat → Int32 → Int32 → Int32 → Prop) (S : PS) (l0 : Nat) (l1 : Int32) (l2 : Int32) (l3 : Int32) : Prop :=
  g16 S l0 l1 l2 (l3 + 1)
def f_X6_feudByBonds_L16 (post : Int32 → PS → Prop) (g4 : PS → Nat → Int32 → Int32 → Prop) : Nat → PS → Nat → Int32 → Int32 → Int32 → Prop
  | 0, _, _, _, _, _ => False
  | n + 1, S, l0, l1, l2, l3 =>
  gI S l0 10 1 fun v1 => (
  if v1 ≤ l3 then
    f_X6_feudByBonds_J52 post g4 S l0 l1 l2
  else
    isO S l0 10 (
    f_X6_sideOf S l0 l2 fun v4 S3 => (
    isO S3 l0 10 (
    f_X6_sideOf S3 l0 l3 fun v6 S5 => (
    if v4 = v6 then
      f_X6_feudByBonds_J46 post (f_X6_feudByBonds_L16 post g4 n) S5 l0 l1 l2 l3
    else
      isO S5 l0 10 (
      f_X6_tie S5 l0 l2 l3 fun v9 S8 => (
      f_X6_feudByBonds_J46 post (f_X6_feudByBonds_L16 post g4 n) S8 l0 (l1 + v9) l2 l3)))))))
def f_X6_feudByBonds_L4 (post : Int32 → PS → Prop) : Nat → PS → Nat → Int32 → Int32 → Prop
  | 0, _, _, _, _ => False
  | n + 1, S, l0, l1, l2 =>
  gI S l0 10 1 fun v1 => (
  if v1 ≤ l2 then
    post l1 S
  else
    f_X6_feudByBonds_L16 post (f_X6_feudByBonds_L4 post n) 4096 S l0 l1 l2 (l2 + 1))
def f_X6_feudByBonds (S : PS) (a0 : Nat) (post : Int32 → PS → Prop) : Prop :=
  f_X6_feudByBonds_L4 post 4096 S a0 0 0
abbrev rm_X6_feudByBonds : Room := { frames := 2, cells := 0, slots := 0, locals := 43 }
set_option maxHeartbeats 4000000 in
set_option maxRecDepth 100000 in
theorem c_X6_feudByBonds (l : Launch) (D : va_G) (cy : Nat → ClassId) (G : p_GT) (hG : p_ok G) (S : PS) (a0 : Nat) (post : Int32 → PS → Prop) (sz : Nat) (hf : f_X6_feudByBonds S a0 post) : p_Mi l D cy G S sz yX6_feudByBonds (Cond.code yX6_feudByBonds cX6_feudByBonds 4 (some .int) :: wG) rm_X6_feudByBonds [.ref a0] 0 0 post := by
  refine q_start hG (Qc := fun A => va_Qi post (p_Post D cy A) A) mf_X6_feudByBonds (Nat.le_of_ble_eq_true rfl) (own := RX6) rfl ?_
  intro p e s m below meth c A X hr hlk hnm ls hl hH
  have hx := X.1.1
  have hb := X.1.2.1
  replace hl : lv_has ls 4 [(0, .ref a0)] := hl
  obtain ⟨H, hHe⟩ : ∃ H, H = s.heap := ⟨_, rfl⟩
  obtain ⟨locs, hlo⟩ : ∃ locs : List Loc, locs = [] := ⟨_, rfl⟩
  rw [← hHe, ← hlo] at hH
  show W p l e rm_X6_feudByBonds s m [.ref a0].toArray below meth c s.heap [] 0 0 _ _
  rw [← hHe, ← hlo]
  have hL4 : ∀ (n4 : Nat) (S : PS) (l0 : Nat) (l1 : Int32) (l2 : Int32), f_X6_feudByBonds_L4 post n4 S l0 l1 l2 → ∀ (H : Heap) (locs : List Loc) (ls : Array Slot), p_H D cy S A s H locs → lv_has ls 4 [(0, .ref l0), (1, .int l1), (2, .int l2)] → W p l e rm_X6_feudByBonds s m [.ref a0].toArray below meth c H locs 0 0 (MQ below (va_Qi post (p_Post D cy A) A) [.ref a0].toArray s 0 0 A) (F0 m 4 ls []) := by
    intro n4
    induction n4 with
    | zero => intro S l0 l1 l2 hf; exact hf.elim
    | succ n4 ih4 =>
      intro S l0 l1 l2 hf H locs ls hH hl
      have hL16 : ∀ (n16 : Nat) (S : PS) (l0 : Nat) (l1 : Int32) (l2 : Int32) (l3 : Int32), f_X6_feudByBonds_L16 post (f_X6_feudByBonds_L4 post n4) n16 S l0 l1 l2 l3 → ∀ (H : Heap) (locs : List Loc) (ls : Array Slot), p_H D cy S A s H locs → lv_has ls 4 [(0, .ref l0), (1, .int l1), (2, .int l2), (3, .int l3)] → W p l e rm_X6_feudByBonds s m [.ref a0].toArray below meth c H locs 0 0 (MQ below (va_Qi post (p_Post D cy A) A) [.ref a0].toArray s 0 0 A) (F0 m 16 ls []) := by
        intro n16
        induction n16 with
        | zero => intro S l0 l1 l2 l3 hf; exact hf.elim
        | succ n16 ih16 =>
          intro S l0 l1 l2 l3 hf H locs ls hH hl
          have hJ52 : ∀ (S : PS) (l0 : Nat) (l1 : Int32) (l2 : Int32), f_X6_feudByBonds_J52 post (f_X6_feudByBonds_L4 post n4) S l0 l1 l2 → ∀ (H : Heap) (locs : List Loc) (ls : Array Slot), p_H D cy S A s H locs → lv_has ls 4 [(0, .ref l0), (1, .int l1), (2, .int l2)] → W p l e rm_X6_feudByBonds s m [.ref a0].toArray below meth c H locs 0 0 (MQ below (va_Qi post (p_Post D cy A) A) [.ref a0].toArray s 0 0 A) (F0 m 52 ls []) := by
            intro S l0 l1 l2 hf H locs ls hH hl
            refine lv_iinc (v := l2 + 1) (lv' := [(2, .int (l2 + 1)), (0, .ref l0), (1, .int l1)]) hx hb dX6_feudByBonds_52 hl (k := 2) rfl rfl (by decide) rfl (fun ls hl => ?_)
            refine lv_goto (tgt := 4) hx hb dX6_feudByBonds_55 (by decide) ?_
            exact ih4 S l0 l1 (l2 + 1) hf H locs ls hH (lv_sub hl [1, 2, 0] rfl)
          have hJ46 : ∀ (S : PS) (l0 : Nat) (l1 : Int32) (l2 : Int32) (l3 : Int32), f_X6_feudByBonds_J46 post (f_X6_feudByBonds_L16 post (f_X6_feudByBonds_L4 post n4) n16) S l0 l1 l2 l3 → ∀ (H : Heap) (locs : List Loc) (ls : Array Slot), p_H D cy S A s H locs → lv_has ls 4 [(0, .ref l0), (1, .int l1), (2, .int l2), (3, .int l3)] → W p l e rm_X6_feudByBonds s m [.ref a0].toArray below meth c H locs 0 0 (MQ below (va_Qi post (p_Post D cy A) A) [.ref a0].toArray s 0 0 A) (F0 m 46 ls []) := by
            intro S l0 l1 l2 l3 hf H locs ls hH hl
            refine lv_iinc (v := l3 + 1) (lv' := [(3, .int (l3 + 1)), (0, .ref l0), (1, .int l1), (2, .int l2)]) hx hb dX6_feudByBonds_46 hl (k := 3) rfl rfl (by decide) rfl (fun ls hl => ?_)
            refine lv_goto (tgt := 16) hx hb dX6_feudByBonds_49 (by decide) ?_
            exact ih16 S l0 l1 l2 (l3 + 1) hf H locs ls hH (lv_sub hl [1, 2, 3, 0] rfl)
          refine lv_iload_n hx hb dX6_feudByBonds_16 rfl (lv_at hl 3 rfl) ?_
          refine lv_aload_n hx hb dX6_feudByBonds_17 rfl (lv_at hl 0 rfl) ?_
          refine q_getI (T := TX6) (N := 6) X hH hf iw_X6 rfl (by decide) tw_73 (fun _ h => h) dX6_feudByBonds_18 (fun v1 hf => ?_)
          refine lv_icmp_ge (tgt := 52) hx hb dX6_feudByBonds_21 (by decide) (fun c2 => ?_) (fun c2 => ?_)
          · have hf := (if_pos c2).mp hf
            exact hJ52 S l0 l1 l2 hf H locs ls hH (lv_sub hl [0, 1, 2] rfl)
          · have hf := (if_neg c2).mp hf
            refine lv_aload_n hx hb dX6_feudByBonds_24 rfl (lv_at hl 0 rfl) ?_
            refine lv_iload_n hx hb dX6_feudByBonds_25 rfl (lv_at hl 2 rfl) ?_
            obtain ⟨hb1, hb2, hf⟩ := hf
            refine q_backI0 X hH (q_runV [.int l2] [] X hH hl (c_X6_sideOf l D cy G X.2.2.2.1 S l0 l2 _ _ hf) mf_X6_sideOf mv_X6_sideOf tw_395 ⟨Nat.le_of_ble_eq_true rfl, Nat.le_of_ble_eq_true rfl⟩ hb1 hb2 (T := TX6) (N := 6) rfl rfl (Nat.le_of_ble_eq_true rfl) dX6_feudByBonds_26 ⟨Nat.le_of_ble_eq_true rfl, Nat.le_of_ble_eq_true rfl⟩) (fun v4 S3 hf H locs hH => ?_)
            refine lv_aload_n hx hb dX6_feudByBonds_29 rfl (lv_at hl 0 rfl) ?_
            refine lv_iload_n hx hb dX6_feudByBonds_30 rfl (lv_at hl 3 rfl) ?_
            obtain ⟨hb1, hb2, hf⟩ := hf
            refine q_backI0 X hH (q_runV [.int l3] [.int v4] X hH hl (c_X6_sideOf l D cy G X.2.2.2.1 S3 l0 l3 _ _ hf) mf_X6_sideOf mv_X6_sideOf tw_395 ⟨Nat.le_of_ble_eq_true rfl, Nat.le_of_ble_eq_true rfl⟩ hb1 hb2 (T := TX6) (N := 6) rfl rfl (Nat.le_of_ble_eq_true rfl) dX6_feudByBonds_31 ⟨Nat.le_of_ble_eq_true rfl, Nat.le_of_ble_eq_true rfl⟩) (fun v6 S5 hf H locs hH => ?_)
            refine lv_icmp_eq (tgt := 46) hx hb dX6_feudByBonds_34 (by decide) (fun c7 => ?_) (fun c7 => ?_)
            · have hf := (if_pos c7).mp hf
              exact hJ46 S5 l0 l1 l2 l3 hf H locs ls hH hl
            · have hf := (if_neg c7).mp hf
              refine lv_iload_n hx hb dX6_feudByBonds_37 rfl (lv_at hl 1 rfl) ?_
              refine lv_aload_n hx hb dX6_feudByBonds_38 rfl (lv_at hl 0 rfl) ?_
              refine lv_iload_n hx hb dX6_feudByBonds_39 rfl (lv_at hl 2 rfl) ?_
              refine lv_iload_n hx hb dX6_feudByBonds_40 rfl (lv_at hl 3 rfl) ?_
              obtain ⟨hb1, hb2, hf⟩ := hf
              refine q_backI0 X hH (q_runV [.int l2, .int l3] [.int l1] X hH hl (c_X6_tie l D cy G X.2.2.2.1 S5 l0 l2 l3 _ _ hf) mf_X6_tie mv_X6_tie tw_378 ⟨Nat.le_of_ble_eq_true rfl, Nat.le_of_ble_eq_true rfl⟩ hb1 hb2 (T := TX6) (N := 6) rfl rfl (Nat.le_of_ble_eq_true rfl) dX6_feudByBonds_41 ⟨Nat.le_of_ble_eq_true rfl, Nat.le_of_ble_eq_true rfl⟩) (fun v9 S8 hf H locs hH => ?_)
              refine lv_iadd hx hb dX6_feudByBonds_44 ?_
              refine lv_istore_n (lv' := [(1, .int (l1 + v9)), (0, .ref l0), (2, .int l2), (3, .int l3)]) hx hb dX6_feudByBonds_45 rfl hl (by decide) rfl (fun ls hl => ?_)
              exact hJ46 S8 l0 (l1 + v9) l2 l3 hf H locs ls hH (lv_sub hl [1, 0, 2, 3] rfl)
      refine lv_iload_n hx hb dX6_feudByBonds_4 rfl (lv_at hl 2 rfl) ?_
      refine lv_aload_n hx hb dX6_feudByBonds_5 rfl (lv_at hl 0 rfl) ?_
      refine q_getI (T := TX6) (N := 6) X hH hf iw_X6 rfl (by decide) tw_73 (fun _ h => h) dX6_feudByBonds_6 (fun v1 hf => ?_)
      refine lv_icmp_ge (tgt := 58) hx hb dX6_feudByBonds_9 (by decide) (fun c2 => ?_) (fun c2 => ?_)
      · have hf := (if_pos c2).mp hf
        refine lv_iload_n hx hb dX6_feudByBonds_58 rfl (lv_at hl 1 rfl) ?_
        exact q_retI X hH hr hlk hf (Nat.zero_le _) (Nat.zero_le _) dX6_feudByBonds_59
      · have hf := (if_neg c2).mp hf
        refine lv_iload_n hx hb dX6_feudByBonds_12 rfl (lv_at hl 2 rfl) ?_
        refine lv_iconst (v := 1) hx hb dX6_feudByBonds_13 (by decide) ?_
        refine lv_iadd hx hb dX6_feudByBonds_14 ?_
        refine lv_istore_n (lv' := [(3, .int (l2 + 1)), (0, .ref l0), (1, .int l1), (2, .int l2)]) hx hb dX6_feudByBonds_15 rfl hl (by decide) rfl (fun ls hl => ?_)
        exact hL16 4096 S l0 l1 l2 (l2 + 1) hf H locs ls hH (lv_sub hl [1, 2, 3, 0] rfl)
  refine lv_iconst (v := 0) hx hb dX6_feudByBonds_0 (by decide) ?_
  refine lv_istore_n (lv' := [(1, .int 0), (0, .ref a0)]) hx hb dX6_feudByBonds_1 rfl hl (by decide) rfl (fun ls hl => ?_)
  refine lv_iconst (v := 0) hx hb dX6_feudByBonds_2 (by decide) ?_
  refine lv_istore_n (lv' := [(2, .int 0), (1, .int 0), (0, .ref a0)]) hx hb dX6_feudByBonds_3 rfl hl (by decide) rfl (fun ls hl => ?_)
  exact hL4 4096 S a0 0 0 hf H locs ls hH (lv_sub hl [2, 1, 0] rfl)
-- X6_feudByHalves
def f_X6_feudByHalves_J31 (post : Int32 → PS → Prop) (S : PS) (l1 : Int32) : Prop :=
  (¬ (2 : Int32) = 0) ∧ (
  post (l1 / 2) S)
def f_X6_feudByHalves_L4 (post : Int32 → PS → Prop) : Nat → PS → Nat → Int32 → Int32 → Prop
  | 0, _, _, _, _ => False
  | n + 1, S, l0, l1, l2 =>
  gI S l0 10 1 fun v1 => (
  if v1 ≤ l2 then
    f_X6_feudByHalves_J31 post S l1
  else
    isO S l0 10 (
    f_X6_otherSide S l0 l2 fun v4 S3 => (
    isO S3 l0 10 (
    f_X6_tieToSet S3 l0 l2 v4 fun v6 S5 => (
    (f_X6_feudByHalves_L4 post n) S5 l0 (l1 + v6) (l2 + 1))))))
def f_X6_feudByHalves (S : PS) (a0 : Nat) (post : Int32 → PS → Prop) : Prop :=
  f_X6_feudByHalves_L4 post 4096 S a0 0 0
abbrev rm_X6_feudByHalves : Room := { frames := 4, cells := 0, slots := 0, locals := 84 }
set_option maxHeartbeats 4000000 in
set_option maxRecDepth 100000 in
theorem c_X6_feudByHalves (l : Launch) (D : va_G) (cy : Nat → ClassId) (G : p_GT) (hG : p_ok G) (S : PS) (a0 : Nat) (post : Int32 → PS → Prop) (sz : Nat) (hf : f_X6_feudByHalves S a0 post) : p_Mi l D cy G S sz yX6_feudByHalves (Cond.code yX6_feudByHalves cX6_feudByHalves 3 (some .int) :: wG) rm_X6_feudByHalves [.ref a0] 0 0 post := by
  refine q_start hG (Qc := fun A => va_Qi post (p_Post D cy A) A) mf_X6_feudByHalves (Nat.le_of_ble_eq_true rfl) (own := RX6) rfl ?_
  intro p e s m below meth c A X hr hlk hnm ls hl hH
  have hx := X.1.1
  have hb := X.1.2.1
  replace hl : lv_has ls 3 [(0, .ref a0)] := hl
  obtain ⟨H, hHe⟩ : ∃ H, H = s.heap := ⟨_, rfl⟩
  obtain ⟨locs, hlo⟩ : ∃ locs : List Loc, locs = [] := ⟨_, rfl⟩
  rw [← hHe, ← hlo] at hH
  show W p l e rm_X6_feudByHalves s m [.ref a0].toArray below meth c s.heap [] 0 0 _ _
  rw [← hHe, ← hlo]
  have hL4 : ∀ (n4 : Nat) (S : PS) (l0 : Nat) (l1 : Int32) (l2 : Int32), f_X6_feudByHalves_L4 post n4 S l0 l1 l2 → ∀ (H : Heap) (locs : List Loc) (ls : Array Slot), p_H D cy S A s H locs → lv_has ls 3 [(0, .ref l0), (1, .int l1), (2, .int l2)] → W p l e rm_X6_feudByHalves s m [.ref a0].toArray below meth c H locs 0 0 (MQ below (va_Qi post (p_Post D cy A) A) [.ref a0].toArray s 0 0 A) (F0 m 4 ls []) := by
    intro n4
    induction n4 with
    | zero => intro S l0 l1 l2 hf; exact hf.elim
    | succ n4 ih4 =>
      intro S l0 l1 l2 hf H locs ls hH hl
      have hJ31 : ∀ (S : PS) (l1 : Int32), f_X6_feudByHalves_J31 post S l1 → ∀ (H : Heap) (locs : List Loc) (ls : Array Slot), p_H D cy S A s H locs → lv_has ls 3 [(1, .int l1)] → W p l e rm_X6_feudByHalves s m [.ref a0].toArray below meth c H locs 0 0 (MQ below (va_Qi post (p_Post D cy A) A) [.ref a0].toArray s 0 0 A) (F0 m 31 ls []) := by
        intro S l1 hf H locs ls hH hl
        refine lv_iload_n hx hb dX6_feudByHalves_31 rfl (lv_at hl 0 rfl) ?_
        refine lv_iconst (v := 2) hx hb dX6_feudByHalves_32 (by decide) ?_
        refine lv_idiv hx hb dX6_feudByHalves_33 hf.1 ?_
        have hf := hf.2
        exact q_retI X hH hr hlk hf (Nat.zero_le _) (Nat.zero_le _) dX6_feudByHalves_34
      refine lv_iload_n hx hb dX6_feudByHalves_4 rfl (lv_at hl 2 rfl) ?_
      refine lv_aload_n hx hb dX6_feudByHalves_5 rfl (lv_at hl 0 rfl) ?_
      refine q_getI (T := TX6) (N := 6) X hH hf iw_X6 rfl (by decide) tw_73 (fun _ h => h) dX6_feudByHalves_6 (fun v1 hf => ?_)
      refine lv_icmp_ge (tgt := 31) hx hb dX6_feudByHalves_9 (by decide) (fun c2 => ?_) (fun c2 => ?_)
      · have hf := (if_pos c2).mp hf
        exact hJ31 S l1 hf H locs ls hH (lv_sub hl [1] rfl)
      · have hf := (if_neg c2).mp hf
        refine lv_iload_n hx hb dX6_feudByHalves_12 rfl (lv_at hl 1 rfl) ?_
        refine lv_aload_n hx hb dX6_feudByHalves_13 rfl (lv_at hl 0 rfl) ?_
        refine lv_iload_n hx hb dX6_feudByHalves_14 rfl (lv_at hl 2 rfl) ?_
        refine lv_aload_n hx hb dX6_feudByHalves_15 rfl (lv_at hl 0 rfl) ?_
        refine lv_iload_n hx hb dX6_feudByHalves_16 rfl (lv_at hl 2 rfl) ?_
        obtain ⟨hb1, hb2, hf⟩ := hf
        refine q_backI0 X hH (q_runV [.int l2] [.int l2, .ref l0, .int l1] X hH hl (c_X6_otherSide l D cy G X.2.2.2.1 S l0 l2 _ _ hf) mf_X6_otherSide mv_X6_otherSide tw_438 ⟨Nat.le_of_ble_eq_true rfl, Nat.le_of_ble_eq_true rfl⟩ hb1 hb2 (T := TX6) (N := 6) rfl rfl (Nat.le_of_ble_eq_true rfl) dX6_feudByHalves_17 ⟨Nat.le_of_ble_eq_true rfl, Nat.le_of_ble_eq_true rfl⟩) (fun v4 S3 hf H locs hH => ?_)
        obtain ⟨hb1, hb2, hf⟩ := hf
        refine q_backI0 X hH (q_runV [.int l2, .int v4] [.int l1] X hH hl (c_X6_tieToSet l D cy G X.2.2.2.1 S3 l0 l2 v4 _ _ hf) mf_X6_tieToSet mv_X6_tieToSet tw_439 ⟨Nat.le_of_ble_eq_true rfl, Nat.le_of_ble_eq_true rfl⟩ hb1 hb2 (T := TX6) (N := 6) rfl rfl (Nat.le_of_ble_eq_true rfl) dX6_feudByHalves_20 ⟨Nat.le_of_ble_eq_true rfl, Nat.le_of_ble_eq_true rfl⟩) (fun v6 S5 hf H locs hH => ?_)
        refine lv_iadd hx hb dX6_feudByHalves_23 ?_
        refine lv_istore_n (lv' := [(1, .int (l1 + v6)), (0, .ref l0), (2, .int l2)]) hx hb dX6_feudByHalves_24 rfl hl (by decide) rfl (fun ls hl => ?_)
        refine lv_iinc (v := l2 + 1) (lv' := [(2, .int (l2 + 1)), (1, .int (l1 + v6)), (0, .ref l0)]) hx hb dX6_feudByHalves_25 hl (k := 2) rfl rfl (by decide) rfl (fun ls hl => ?_)
        refine lv_goto (tgt := 4) hx hb dX6_feudByHalves_28 (by decide) ?_
        exact ih4 S5 l0 (l1 + v6) (l2 + 1) hf H locs ls hH (lv_sub hl [2, 1, 0] rfl)
  refine lv_iconst (v := 0) hx hb dX6_feudByHalves_0 (by decide) ?_
  refine lv_istore_n (lv' := [(1, .int 0), (0, .ref a0)]) hx hb dX6_feudByHalves_1 rfl hl (by decide) rfl (fun ls hl => ?_)
  refine lv_iconst (v := 0) hx hb dX6_feudByHalves_2 (by decide) ?_
  refine lv_istore_n (lv' := [(2, .int 0), (1, .int 0), (0, .ref a0)]) hx hb dX6_feudByHalves_3 rfl hl (by decide) rfl (fun ls hl => ?_)
  exact hL4 4096 S a0 0 0 hf H locs ls hH (lv_sub hl [2, 1, 0] rfl)
-- X6_feudAfterMove
def f_X6_feudAfterMove (S : PS) (a0 : Nat) (a1 : Int32) (post : Int32 → PS → Prop) : Prop :=
  isO S a0 10 (
  f_X6_feudByBonds S a0 fun v2 S1 => (
  isO S1 a0 10 (
  f_X6_sameSide S1 a0 a1 fun v4 S3 => (
  isO S3 a0 10 (
  f_X6_tieToSet S3 a0 a1 v4 fun v6 S5 => (
  isO S5 a0 10 (
  f_X6_otherSide S5 a0 a1 fun v8 S7 => (
  isO S7 a0 10 (
  f_X6_tieToSet S7 a0 a1 v8 fun v10 S9 => (
  post ((v2 + v6) - v10) S9))))))))))
abbrev rm_X6_feudAfterMove : Room := { frames := 4, cells := 0, slots := 0, locals := 84 }
set_option maxHeartbeats 4000000 in
set_option maxRecDepth 100000 in
theorem c_X6_feudAfterMove (l : Launch) (D : va_G) (cy : Nat → ClassId) (G : p_GT) (hG : p_ok G) (S : PS) (a0 : Nat) (a1 : Int32) (post : Int32 → PS → Prop) (sz : Nat) (hf : f_X6_feudAfterMove S a0 a1 post) : p_Mi l D cy G S sz yX6_feudAfterMove (Cond.code yX6_feudAfterMove cX6_feudAfterMove 2 (some .int) :: wG) rm_X6_feudAfterMove [.ref a0, .int a1] 0 0 post := by
  refine q_start hG (Qc := fun A => va_Qi post (p_Post D cy A) A) mf_X6_feudAfterMove (Nat.le_of_ble_eq_true rfl) (own := RX6) rfl ?_
  intro p e s m below meth c A X hr hlk hnm ls hl hH
  have hx := X.1.1
  have hb := X.1.2.1
  replace hl : lv_has ls 2 [(0, .ref a0), (1, .int a1)] := hl
  obtain ⟨H, hHe⟩ : ∃ H, H = s.heap := ⟨_, rfl⟩
  obtain ⟨locs, hlo⟩ : ∃ locs : List Loc, locs = [] := ⟨_, rfl⟩
  rw [← hHe, ← hlo] at hH
  show W p l e rm_X6_feudAfterMove s m [.ref a0, .int a1].toArray below meth c s.heap [] 0 0 _ _
  rw [← hHe, ← hlo]
  refine lv_aload_n hx hb dX6_feudAfterMove_0 rfl (lv_at hl 0 rfl) ?_
  obtain ⟨hb1, hb2, hf⟩ := hf
  refine q_backI0 X hH (q_runV [] [] X hH hl (c_X6_feudByBonds l D cy G X.2.2.2.1 S a0 _ _ hf) mf_X6_feudByBonds mv_X6_feudByBonds tw_602 ⟨Nat.le_of_ble_eq_true rfl, Nat.le_of_ble_eq_true rfl⟩ hb1 hb2 (T := TX6) (N := 6) rfl rfl (Nat.le_of_ble_eq_true rfl) dX6_feudAfterMove_1 ⟨Nat.le_of_ble_eq_true rfl, Nat.le_of_ble_eq_true rfl⟩) (fun v2 S1 hf H locs hH => ?_)
  refine lv_aload_n hx hb dX6_feudAfterMove_4 rfl (lv_at hl 0 rfl) ?_
  refine lv_iload_n hx hb dX6_feudAfterMove_5 rfl (lv_at hl 1 rfl) ?_
  refine lv_aload_n hx hb dX6_feudAfterMove_6 rfl (lv_at hl 0 rfl) ?_
  refine lv_iload_n hx hb dX6_feudAfterMove_7 rfl (lv_at hl 1 rfl) ?_
  obtain ⟨hb1, hb2, hf⟩ := hf
  refine q_backI0 X hH (q_runV [.int a1] [.int a1, .ref a0, .int v2] X hH hl (c_X6_sameSide l D cy G X.2.2.2.1 S1 a0 a1 _ _ hf) mf_X6_sameSide mv_X6_sameSide tw_401 ⟨Nat.le_of_ble_eq_true rfl, Nat.le_of_ble_eq_true rfl⟩ hb1 hb2 (T := TX6) (N := 6) rfl rfl (Nat.le_of_ble_eq_true rfl) dX6_feudAfterMove_8 ⟨Nat.le_of_ble_eq_true rfl, Nat.le_of_ble_eq_true rfl⟩) (fun v4 S3 hf H locs hH => ?_)
  obtain ⟨hb1, hb2, hf⟩ := hf
  refine q_backI0 X hH (q_runV [.int a1, .int v4] [.int v2] X hH hl (c_X6_tieToSet l D cy G X.2.2.2.1 S3 a0 a1 v4 _ _ hf) mf_X6_tieToSet mv_X6_tieToSet tw_439 ⟨Nat.le_of_ble_eq_true rfl, Nat.le_of_ble_eq_true rfl⟩ hb1 hb2 (T := TX6) (N := 6) rfl rfl (Nat.le_of_ble_eq_true rfl) dX6_feudAfterMove_11 ⟨Nat.le_of_ble_eq_true rfl, Nat.le_of_ble_eq_true rfl⟩) (fun v6 S5 hf H locs hH => ?_)
  refine lv_iadd hx hb dX6_feudAfterMove_14 ?_
  refine lv_aload_n hx hb dX6_feudAfterMove_15 rfl (lv_at hl 0 rfl) ?_
  refine lv_iload_n hx hb dX6_feudAfterMove_16 rfl (lv_at hl 1 rfl) ?_
  refine lv_aload_n hx hb dX6_feudAfterMove_17 rfl (lv_at hl 0 rfl) ?_
  refine lv_iload_n hx hb dX6_feudAfterMove_18 rfl (lv_at hl 1 rfl) ?_
  obtain ⟨hb1, hb2, hf⟩ := hf
  refine q_backI0 X hH (q_runV [.int a1] [.int a1, .ref a0, .int (v2 + v6)] X hH hl (c_X6_otherSide l D cy G X.2.2.2.1 S5 a0 a1 _ _ hf) mf_X6_otherSide mv_X6_otherSide tw_438 ⟨Nat.le_of_ble_eq_true rfl, Nat.le_of_ble_eq_true rfl⟩ hb1 hb2 (T := TX6) (N := 6) rfl rfl (Nat.le_of_ble_eq_true rfl) dX6_feudAfterMove_19 ⟨Nat.le_of_ble_eq_true rfl, Nat.le_of_ble_eq_true rfl⟩) (fun v8 S7 hf H locs hH => ?_)
  obtain ⟨hb1, hb2, hf⟩ := hf
  refine q_backI0 X hH (q_runV [.int a1, .int v8] [.int (v2 + v6)] X hH hl (c_X6_tieToSet l D cy G X.2.2.2.1 S7 a0 a1 v8 _ _ hf) mf_X6_tieToSet mv_X6_tieToSet tw_439 ⟨Nat.le_of_ble_eq_true rfl, Nat.le_of_ble_eq_true rfl⟩ hb1 hb2 (T := TX6) (N := 6) rfl rfl (Nat.le_of_ble_eq_true rfl) dX6_feudAfterMove_22 ⟨Nat.le_of_ble_eq_true rfl, Nat.le_of_ble_eq_true rfl⟩) (fun v10 S9 hf H locs hH => ?_)
  refine lv_isub hx hb dX6_feudAfterMove_25 ?_
  exact q_retI X hH hr hlk hf (Nat.zero_le _) (Nat.zero_le _) dX6_feudAfterMove_26
-- X6_weightSum
def f_X6_weightSum_J30 (post : Int32 → PS → Prop) (S : PS) (l1 : Int32) : Prop :=
  (¬ (2 : Int32) = 0) ∧ (
  post (l1 / 2) S)
def f_X6_weightSum_L4 (post : Int32 → PS → Prop) : Nat → PS → Nat → Int32 → Int32 → Prop
  | 0, _, _, _, _ => False
  | n + 1, S, l0, l1, l2 =>
  gI S l0 10 1 fun v1 => (
  if v1 ≤ l2 then
    f_X6_weightSum_J30 post S l1
  else
    isO S l0 10 (
    f_X6_everyone S l0 fun v4 S3 => (
    isO S3 l0 10 (
    f_X6_tieToSet S3 l0 l2 v4 fun v6 S5 => (
    (f_X6_weightSum_L4 post n) S5 l0 (l1 + v6) (l2 + 1))))))
def f_X6_weightSum (S : PS) (a0 : Nat) (post : Int32 → PS → Prop) : Prop :=
  f_X6_weightSum_L4 post 4096 S a0 0 0
abbrev rm_X6_weightSum : Room := { frames := 3, cells := 0, slots := 0, locals := 67 }
set_option maxHeartbeats 4000000 in
set_option maxRecDepth 100000 in
theorem c_X6_weightSum (l : Launch) (D : va_G) (cy : Nat → ClassId) (G : p_GT) (hG : p_ok G) (S : PS) (a0 : Nat) (post : Int32 → PS → Prop) (sz : Nat) (hf : f_X6_weightSum S a0 post) : p_Mi l D cy G S sz yX6_weightSum (Cond.code yX6_weightSum cX6_weightSum 3 (some .int) :: wG) rm_X6_weightSum [.ref a0] 0 0 post := by
  refine q_start hG (Qc := fun A => va_Qi post (p_Post D cy A) A) mf_X6_weightSum (Nat.le_of_ble_eq_true rfl) (own := RX6) rfl ?_
  intro p e s m below meth c A X hr hlk hnm ls hl hH
  have hx := X.1.1
  have hb := X.1.2.1
  replace hl : lv_has ls 3 [(0, .ref a0)] := hl
  obtain ⟨H, hHe⟩ : ∃ H, H = s.heap := ⟨_, rfl⟩
  obtain ⟨locs, hlo⟩ : ∃ locs : List Loc, locs = [] := ⟨_, rfl⟩
  rw [← hHe, ← hlo] at hH
  show W p l e rm_X6_weightSum s m [.ref a0].toArray below meth c s.heap [] 0 0 _ _
  rw [← hHe, ← hlo]
  have hL4 : ∀ (n4 : Nat) (S : PS) (l0 : Nat) (l1 : Int32) (l2 : Int32), f_X6_weightSum_L4 post n4 S l0 l1 l2 → ∀ (H : Heap) (locs : List Loc) (ls : Array Slot), p_H D cy S A s H locs → lv_has ls 3 [(0, .ref l0), (1, .int l1), (2, .int l2)] → W p l e rm_X6_weightSum s m [.ref a0].toArray below meth c H locs 0 0 (MQ below (va_Qi post (p_Post D cy A) A) [.ref a0].toArray s 0 0 A) (F0 m 4 ls []) := by
    intro n4
    induction n4 with
    | zero => intro S l0 l1 l2 hf; exact hf.elim
    | succ n4 ih4 =>
      intro S l0 l1 l2 hf H locs ls hH hl
      have hJ30 : ∀ (S : PS) (l1 : Int32), f_X6_weightSum_J30 post S l1 → ∀ (H : Heap) (locs : List Loc) (ls : Array Slot), p_H D cy S A s H locs → lv_has ls 3 [(1, .int l1)] → W p l e rm_X6_weightSum s m [.ref a0].toArray below meth c H locs 0 0 (MQ below (va_Qi post (p_Post D cy A) A) [.ref a0].toArray s 0 0 A) (F0 m 30 ls []) := by
        intro S l1 hf H locs ls hH hl
        refine lv_iload_n hx hb dX6_weightSum_30 rfl (lv_at hl 0 rfl) ?_
        refine lv_iconst (v := 2) hx hb dX6_weightSum_31 (by decide) ?_
        refine lv_idiv hx hb dX6_weightSum_32 hf.1 ?_
        have hf := hf.2
        exact q_retI X hH hr hlk hf (Nat.zero_le _) (Nat.zero_le _) dX6_weightSum_33
      refine lv_iload_n hx hb dX6_weightSum_4 rfl (lv_at hl 2 rfl) ?_
      refine lv_aload_n hx hb dX6_weightSum_5 rfl (lv_at hl 0 rfl) ?_
      refine q_getI (T := TX6) (N := 6) X hH hf iw_X6 rfl (by decide) tw_73 (fun _ h => h) dX6_weightSum_6 (fun v1 hf => ?_)
      refine lv_icmp_ge (tgt := 30) hx hb dX6_weightSum_9 (by decide) (fun c2 => ?_) (fun c2 => ?_)
      · have hf := (if_pos c2).mp hf
        exact hJ30 S l1 hf H locs ls hH (lv_sub hl [1] rfl)
      · have hf := (if_neg c2).mp hf
        refine lv_iload_n hx hb dX6_weightSum_12 rfl (lv_at hl 1 rfl) ?_
        refine lv_aload_n hx hb dX6_weightSum_13 rfl (lv_at hl 0 rfl) ?_
        refine lv_iload_n hx hb dX6_weightSum_14 rfl (lv_at hl 2 rfl) ?_
        refine lv_aload_n hx hb dX6_weightSum_15 rfl (lv_at hl 0 rfl) ?_
        obtain ⟨hb1, hb2, hf⟩ := hf
        refine q_backI0 X hH (q_runV [] [.int l2, .ref l0, .int l1] X hH hl (c_X6_everyone l D cy G X.2.2.2.1 S l0 _ _ hf) mf_X6_everyone mv_X6_everyone tw_396 ⟨Nat.le_of_ble_eq_true rfl, Nat.le_of_ble_eq_true rfl⟩ hb1 hb2 (T := TX6) (N := 6) rfl rfl (Nat.le_of_ble_eq_true rfl) dX6_weightSum_16 ⟨Nat.le_of_ble_eq_true rfl, Nat.le_of_ble_eq_true rfl⟩) (fun v4 S3 hf H locs hH => ?_)
        obtain ⟨hb1, hb2, hf⟩ := hf
        refine q_backI0 X hH (q_runV [.int l2, .int v4] [.int l1] X hH hl (c_X6_tieToSet l D cy G X.2.2.2.1 S3 l0 l2 v4 _ _ hf) mf_X6_tieToSet mv_X6_tieToSet tw_439 ⟨Nat.le_of_ble_eq_true rfl, Nat.le_of_ble_eq_true rfl⟩ hb1 hb2 (T := TX6) (N := 6) rfl rfl (Nat.le_of_ble_eq_true rfl) dX6_weightSum_19 ⟨Nat.le_of_ble_eq_true rfl, Nat.le_of_ble_eq_true rfl⟩) (fun v6 S5 hf H locs hH => ?_)
        refine lv_iadd hx hb dX6_weightSum_22 ?_
        refine lv_istore_n (lv' := [(1, .int (l1 + v6)), (0, .ref l0), (2, .int l2)]) hx hb dX6_weightSum_23 rfl hl (by decide) rfl (fun ls hl => ?_)
        refine lv_iinc (v := l2 + 1) (lv' := [(2, .int (l2 + 1)), (1, .int (l1 + v6)), (0, .ref l0)]) hx hb dX6_weightSum_24 hl (k := 2) rfl rfl (by decide) rfl (fun ls hl => ?_)
        refine lv_goto (tgt := 4) hx hb dX6_weightSum_27 (by decide) ?_
        exact ih4 S5 l0 (l1 + v6) (l2 + 1) hf H locs ls hH (lv_sub hl [2, 1, 0] rfl)
  refine lv_iconst (v := 0) hx hb dX6_weightSum_0 (by decide) ?_
  refine lv_istore_n (lv' := [(1, .int 0), (0, .ref a0)]) hx hb dX6_weightSum_1 rfl hl (by decide) rfl (fun ls hl => ?_)
  refine lv_iconst (v := 0) hx hb dX6_weightSum_2 (by decide) ?_
  refine lv_istore_n (lv' := [(2, .int 0), (1, .int 0), (0, .ref a0)]) hx hb dX6_weightSum_3 rfl hl (by decide) rfl (fun ls hl => ?_)
  exact hL4 4096 S a0 0 0 hf H locs ls hH (lv_sub hl [2, 1, 0] rfl)
