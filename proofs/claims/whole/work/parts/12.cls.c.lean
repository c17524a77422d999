-- X0_leastApart
def f_X0_leastApart_J52 (post : Int32 → PS → Prop) (g6 : PS → Nat → Int32 → Int32 → Int32 → Int32 → Prop) (S : PS) (l0 : Nat) (l1 : Int32) (l2 : Int32) (l3 : Int32) (l4 : Int32) : Prop :=
  g6 S l0 l1 l2 l3 (l4 + 1)
def f_X0_leastApart_L6 (post : Int32 → PS → Prop) : Nat → PS → Nat → Int32 → Int32 → Int32 → Int32 → Prop
  | 0, _, _, _, _, _, _ => False
  | n + 1, S, l0, l1, l2, l3, l4 =>
  gI S l0 4 1 fun v1 => (
  if v1 ≤ l4 then
    post l3 S
  else
    gR S l0 4 0 fun v3 => (
    lE S v3 fun v4 => (
    if v4 ≤ l4 then
      post l3 S
    else
      f_X7_isIn S l4 l1 fun v7 S6 => (
      f_X7_isIn S6 l4 l2 fun v9 S8 => (
      if v7 = v9 then
        f_X0_leastApart_J52 post (f_X0_leastApart_L6 post n) S8 l0 l1 l2 l3 l4
      else
        gR S8 l0 4 0 fun v11 => (
        aI S8 v11 0 l4 fun v12 => (
        f_X0_leastApart_J52 post (f_X0_leastApart_L6 post n) S8 l0 l1 l2 (if v12 < l3 then v12 else l3) l4)))))))
def f_X0_leastApart (S : PS) (a0 : Nat) (a1 : Int32) (a2 : Int32) (post : Int32 → PS → Prop) : Prop :=
  f_X0_leastApart_L6 post 4096 S a0 a1 a2 2147483647 1
abbrev rm_X0_leastApart : Room := { frames := 1, cells := 0, slots := 0, locals := 21 }
set_option maxHeartbeats 4000000 in
set_option maxRecDepth 100000 in
theorem c_X0_leastApart (l : Launch) (D : va_G) (cy : Nat → ClassId) (G : p_GT) (hG : p_ok G) (S : PS) (a0 : Nat) (a1 : Int32) (a2 : Int32) (post : Int32 → PS → Prop) (sz : Nat) (hf : f_X0_leastApart S a0 a1 a2 post) : p_Mi l D cy G S sz yX0_leastApart (Cond.code yX0_leastApart cX0_leastApart 5 (some .int) :: wG) rm_X0_leastApart [.ref a0, .int a1, .int a2] 0 0 post := by
  refine q_start hG (Qc := fun A => va_Qi post (p_Post D cy A) A) mf_X0_leastApart (Nat.le_of_ble_eq_true rfl) (own := RX0) rfl ?_
  intro p e s m below meth c A X hr hlk hnm ls hl hH
  have hx := X.1.1
  have hb := X.1.2.1
  replace hl : lv_has ls 5 [(0, .ref a0), (1, .int a1), (2, .int a2)] := hl
  obtain ⟨H, hHe⟩ : ∃ H, H = s.heap := ⟨_, rfl⟩
  obtain ⟨locs, hlo⟩ : ∃ locs : List Loc, locs = [] := ⟨_, rfl⟩
  rw [← hHe, ← hlo] at hH
  show W p l e rm_X0_leastApart s m [.ref a0, .int a1, .int a2].toArray below meth c s.heap [] 0 0 _ _
  rw [← hHe, ← hlo]
  have hL6 : ∀ (n6 : Nat) (S : PS) (l0 : Nat) (l1 : Int32) (l2 : Int32) (l3 : Int32) (l4 : Int32), f_X0_leastApart_L6 post n6 S l0 l1 l2 l3 l4 → ∀ (H : Heap) (locs : List Loc) (ls : Array Slot), p_H D cy S A s H locs → lv_has ls 5 [(0, .ref l0), (1, .int l1), (2, .int l2), (3, .int l3), (4, .int l4)] → W p l e rm_X0_leastApart s m [.ref a0, .int a1, .int a2].toArray below meth c H locs 0 0 (MQ below (va_Qi post (p_Post D cy A) A) [.ref a0, .int a1, .int a2].toArray s 0 0 A) (F0 m 6 ls []) := by
    intro n6
    induction n6 with
    | zero => intro S l0 l1 l2 l3 l4 hf; exact hf.elim
    | succ n6 ih6 =>
      intro S l0 l1 l2 l3 l4 hf H locs ls hH hl
      have hJ52 : ∀ (S : PS) (l0 : Nat) (l1 : Int32) (l2 : Int32) (l3 : Int32) (l4 : Int32), f_X0_leastApart_J52 post (f_X0_leastApart_L6 post n6) S l0 l1 l2 l3 l4 → ∀ (H : Heap) (locs : List Loc) (ls : Array Slot), p_H D cy S A s H locs → lv_has ls 5 [(0, .ref l0), (1, .int l1), (2, .int l2), (3, .int l3), (4, .int l4)] → W p l e rm_X0_leastApart s m [.ref a0, .int a1, .int a2].toArray below meth c H locs 0 0 (MQ below (va_Qi post (p_Post D cy A) A) [.ref a0, .int a1, .int a2].toArray s 0 0 A) (F0 m 52 ls []) := by
        intro S l0 l1 l2 l3 l4 hf H locs ls hH hl
        refine lv_iinc (v := l4 + 1) (lv' := [(4, .int (l4 + 1)), (0, .ref l0), (1, .int l1), (2, .int l2), (3, .int l3)]) hx hb dX0_leastApart_52 hl (k := 4) rfl rfl (by decide) rfl (fun ls hl => ?_)
        refine lv_goto (tgt := 6) hx hb dX0_leastApart_55 (by decide) ?_
        exact ih6 S l0 l1 l2 l3 (l4 + 1) hf H locs ls hH (lv_sub hl [1, 2, 3, 4, 0] rfl)
      refine lv_iload hx hb dX0_leastApart_6 (lv_at hl 4 rfl) ?_
      refine lv_aload_n hx hb dX0_leastApart_8 rfl (lv_at hl 0 rfl) ?_
      refine q_getI (T := TX0) (N := 2) X hH hf iw_X0 rfl (by decide) tw_215 (fun _ h => h) dX0_leastApart_9 (fun v1 hf => ?_)
      refine lv_icmp_ge (tgt := 58) hx hb dX0_leastApart_12 (by decide) (fun c2 => ?_) (fun c2 => ?_)
      · have hf := (if_pos c2).mp hf
        refine lv_iload_n hx hb dX0_leastApart_58 rfl (lv_at hl 3 rfl) ?_
        exact q_retI X hH hr hlk hf (Nat.zero_le _) (Nat.zero_le _) dX0_leastApart_59
      · have hf := (if_neg c2).mp hf
        refine lv_iload hx hb dX0_leastApart_15 (lv_at hl 4 rfl) ?_
        refine lv_aload_n hx hb dX0_leastApart_17 rfl (lv_at hl 0 rfl) ?_
        refine q_getR (T := TX0) (N := 2) X hH hf iw_X0 rfl (by decide) tw_214 (fun _ h => h) dX0_leastApart_18 (fun v3 hf => ?_)
        refine q_alen X hH hf dX0_leastApart_21 (fun v4 hf => ?_)
        refine lv_icmp_ge (tgt := 58) hx hb dX0_leastApart_22 (by decide) (fun c5 => ?_) (fun c5 => ?_)
        · have hf := (if_pos c5).mp hf
          refine lv_iload_n hx hb dX0_leastApart_58 rfl (lv_at hl 3 rfl) ?_
          exact q_retI X hH hr hlk hf (Nat.zero_le _) (Nat.zero_le _) dX0_leastApart_59
        · have hf := (if_neg c5).mp hf
          refine lv_iload hx hb dX0_leastApart_25 (lv_at hl 4 rfl) ?_
          refine lv_iload_n hx hb dX0_leastApart_27 rfl (lv_at hl 1 rfl) ?_
          refine q_backI0 X hH (q_runSN [.int l4, .int l1] [] X hH hl (c_X7_isIn l D cy G X.2.2.2.1 S l4 l1 _ _ hf) mf_X7_isIn tw_369 (List.mem_of_getElem? (i := 15) rfl) ⟨Nat.le_of_ble_eq_true rfl, Nat.le_of_ble_eq_true rfl⟩ rfl (Nat.le_of_ble_eq_true rfl) dX0_leastApart_28 ⟨Nat.le_of_ble_eq_true rfl, Nat.le_of_ble_eq_true rfl⟩) (fun v7 S6 hf H locs hH => ?_)
          refine lv_iload hx hb dX0_leastApart_31 (lv_at hl 4 rfl) ?_
          refine lv_iload_n hx hb dX0_leastApart_33 rfl (lv_at hl 2 rfl) ?_
          refine q_backI0 X hH (q_runSN [.int l4, .int l2] [.int v7] X hH hl (c_X7_isIn l D cy G X.2.2.2.1 S6 l4 l2 _ _ hf) mf_X7_isIn tw_369 (List.mem_of_getElem? (i := 15) rfl) ⟨Nat.le_of_ble_eq_true rfl, Nat.le_of_ble_eq_true rfl⟩ rfl (Nat.le_of_ble_eq_true rfl) dX0_leastApart_34 ⟨Nat.le_of_ble_eq_true rfl, Nat.le_of_ble_eq_true rfl⟩) (fun v9 S8 hf H locs hH => ?_)
          refine lv_icmp_eq (tgt := 52) hx hb dX0_leastApart_37 (by decide) (fun c10 => ?_) (fun c10 => ?_)
          · have hf := (if_pos c10).mp hf
            exact hJ52 S8 l0 l1 l2 l3 l4 hf H locs ls hH hl
          · have hf := (if_neg c10).mp hf
            refine lv_iload_n hx hb dX0_leastApart_40 rfl (lv_at hl 3 rfl) ?_
            refine lv_aload_n hx hb dX0_leastApart_41 rfl (lv_at hl 0 rfl) ?_
            refine q_getR (T := TX0) (N := 2) X hH hf iw_X0 rfl (by decide) tw_214 (fun _ h => h) dX0_leastApart_42 (fun v11 hf => ?_)
            refine lv_iload hx hb dX0_leastApart_45 (lv_at hl 4 rfl) ?_
            refine q_iald X hH hf dX0_leastApart_47 (fun v12 hf => ?_)
            refine q_mmin X hl tw_505 tw_475 tw_110 tw_476 ⟨Nat.le_of_ble_eq_true rfl, Nat.le_of_ble_eq_true rfl⟩ (Nat.le_of_ble_eq_true rfl) (Nat.zero_le _) (Nat.zero_le _) dX0_leastApart_48 ?_
            refine lv_istore_n (lv' := [(3, .int ((if v12 < l3 then v12 else l3))), (0, .ref l0), (1, .int l1), (2, .int l2), (4, .int l4)]) hx hb dX0_leastApart_51 rfl hl (by decide) rfl (fun ls hl => ?_)
            exact hJ52 S8 l0 l1 l2 (if v12 < l3 then v12 else l3) l4 hf H locs ls hH (lv_sub hl [1, 2, 3, 0, 4] rfl)
  refine lv_ldc (v := 2147483647) hx hb X.1.2.2.2.1 (X.1.2.2.2.2 _ tw_504) dX0_leastApart_0 ?_
  refine lv_istore_n (lv' := [(3, .int 2147483647), (0, .ref a0), (1, .int a1), (2, .int a2)]) hx hb dX0_leastApart_2 rfl hl (by decide) rfl (fun ls hl => ?_)
  refine lv_iconst (v := 1) hx hb dX0_leastApart_3 (by decide) ?_
  refine lv_istore (lv' := [(4, .int 1), (3, .int 2147483647), (0, .ref a0), (1, .int a1), (2, .int a2)]) hx hb dX0_leastApart_4 hl (by decide) rfl (fun ls hl => ?_)
  exact hL6 4096 S a0 a1 a2 2147483647 1 hf H locs ls hH (lv_sub hl [2, 3, 4, 1, 0] rfl)
-- X1_stepBack
def f_X1_stepBack (S : PS) (a0 : Nat) (a1 : Int32) (post : Int32 → PS → Prop) : Prop :=
  isO S a0 5 (
  f_X1_isThere S a0 a1 fun v2 S1 => (
  if v2 = 0 then
    post (-1) S1
  else
    gR S1 a0 5 1 fun v4 => (
    aI S1 v4 0 a1 fun v5 => (
    post v5 S1))))
abbrev rm_X1_stepBack : Room := { frames := 1, cells := 0, slots := 0, locals := 21 }
set_option maxHeartbeats 4000000 in
set_option maxRecDepth 100000 in
theorem c_X1_stepBack (l : Launch) (D : va_G) (cy : Nat → ClassId) (G : p_GT) (hG : p_ok G) (S : PS) (a0 : Nat) (a1 : Int32) (post : Int32 → PS → Prop) (sz : Nat) (hf : f_X1_stepBack S a0 a1 post) : p_Mi l D cy G S sz yX1_stepBack (Cond.code yX1_stepBack cX1_stepBack 2 (some .int) :: wG) rm_X1_stepBack [.ref a0, .int a1] 0 0 post := by
  refine q_start hG (Qc := fun A => va_Qi post (p_Post D cy A) A) mf_X1_stepBack (Nat.le_of_ble_eq_true rfl) (own := RX1) rfl ?_
  intro p e s m below meth c A X hr hlk hnm ls hl hH
  have hx := X.1.1
  have hb := X.1.2.1
  replace hl : lv_has ls 2 [(0, .ref a0), (1, .int a1)] := hl
  obtain ⟨H, hHe⟩ : ∃ H, H = s.heap := ⟨_, rfl⟩
  obtain ⟨locs, hlo⟩ : ∃ locs : List Loc, locs = [] := ⟨_, rfl⟩
  rw [← hHe, ← hlo] at hH
  show W p l e rm_X1_stepBack s m [.ref a0, .int a1].toArray below meth c s.heap [] 0 0 _ _
  rw [← hHe, ← hlo]
  refine lv_aload_n hx hb dX1_stepBack_0 rfl (lv_at hl 0 rfl) ?_
  refine lv_iload_n hx hb dX1_stepBack_1 rfl (lv_at hl 1 rfl) ?_
  obtain ⟨hb1, hb2, hf⟩ := hf
  refine q_backI0 X hH (q_runV [.int a1] [] X hH hl (c_X1_isThere l D cy G X.2.2.2.1 S a0 a1 _ _ hf) mf_X1_isThere mv_X1_isThere tw_525 ⟨Nat.le_of_ble_eq_true rfl, Nat.le_of_ble_eq_true rfl⟩ hb1 hb2 (T := TX1) (N := 3) rfl rfl (Nat.le_of_ble_eq_true rfl) dX1_stepBack_2 ⟨Nat.le_of_ble_eq_true rfl, Nat.le_of_ble_eq_true rfl⟩) (fun v2 S1 hf H locs hH => ?_)
  refine lv_if_eq (tgt := 17) hx hb dX1_stepBack_5 (by decide) (fun c3 => ?_) (fun c3 => ?_)
  · have hf := (if_pos c3).mp hf
    refine lv_iconst (v := (-1)) hx hb dX1_stepBack_17 (by decide) ?_
    exact q_retI X hH hr hlk hf (Nat.zero_le _) (Nat.zero_le _) dX1_stepBack_18
  · have hf := (if_neg c3).mp hf
    refine lv_aload_n hx hb dX1_stepBack_8 rfl (lv_at hl 0 rfl) ?_
    refine q_getR (T := TX1) (N := 3) X hH hf iw_X1 rfl (by decide) tw_228 (fun _ h => h) dX1_stepBack_9 (fun v4 hf => ?_)
    refine lv_iload_n hx hb dX1_stepBack_12 rfl (lv_at hl 1 rfl) ?_
    refine q_iald X hH hf dX1_stepBack_13 (fun v5 hf => ?_)
    refine lv_goto (tgt := 18) hx hb dX1_stepBack_14 (by decide) ?_
    exact q_retI X hH hr hlk hf (Nat.zero_le _) (Nat.zero_le _) dX1_stepBack_18
-- X1_roomOn
def f_X1_roomOn (S : PS) (a0 : Nat) (a1 : Int32) (a2 : Int32) (post : Int32 → PS → Prop) : Prop :=
  isO S a0 5 (
  f_X1_isThere S a0 a1 fun v2 S1 => (
  if v2 = 0 then
    post 0 S1
  else
    isO S1 a0 5 (
    f_X1_isThere S1 a0 a2 fun v5 S4 => (
    if v5 = 0 then
      post 0 S4
    else
      gR S4 a0 5 0 fun v7 => (
      aI S4 v7 0 ((a1 * 9) + a2) fun v8 => (
      post v8 S4))))))
abbrev rm_X1_roomOn : Room := { frames := 1, cells := 0, slots := 0, locals := 21 }
set_option maxHeartbeats 4000000 in
set_option maxRecDepth 100000 in
theorem c_X1_roomOn (l : Launch) (D : va_G) (cy : Nat → ClassId) (G : p_GT) (hG : p_ok G) (S : PS) (a0 : Nat) (a1 : Int32) (a2 : Int32) (post : Int32 → PS → Prop) (sz : Nat) (hf : f_X1_roomOn S a0 a1 a2 post) : p_Mi l D cy G S sz yX1_roomOn (Cond.code yX1_roomOn cX1_roomOn 3 (some .int) :: wG) rm_X1_roomOn [.ref a0, .int a1, .int a2] 0 0 post := by
  refine q_start hG (Qc := fun A => va_Qi post (p_Post D cy A) A) mf_X1_roomOn (Nat.le_of_ble_eq_true rfl) (own := RX1) rfl ?_
  intro p e s m below meth c A X hr hlk hnm ls hl hH
  have hx := X.1.1
  have hb := X.1.2.1
  replace hl : lv_has ls 3 [(0, .ref a0), (1, .int a1), (2, .int a2)] := hl
  obtain ⟨H, hHe⟩ : ∃ H, H = s.heap := ⟨_, rfl⟩
  obtain ⟨locs, hlo⟩ : ∃ locs : List Loc, locs = [] := ⟨_, rfl⟩
  rw [← hHe, ← hlo] at hH
  show W p l e rm_X1_roomOn s m [.ref a0, .int a1, .int a2].toArray below meth c s.heap [] 0 0 _ _
  rw [← hHe, ← hlo]
  refine lv_aload_n hx hb dX1_roomOn_0 rfl (lv_at hl 0 rfl) ?_
  refine lv_iload_n hx hb dX1_roomOn_1 rfl (lv_at hl 1 rfl) ?_
  obtain ⟨hb1, hb2, hf⟩ := hf
  refine q_backI0 X hH (q_runV [.int a1] [] X hH hl (c_X1_isThere l D cy G X.2.2.2.1 S a0 a1 _ _ hf) mf_X1_isThere mv_X1_isThere tw_525 ⟨Nat.le_of_ble_eq_true rfl, Nat.le_of_ble_eq_true rfl⟩ hb1 hb2 (T := TX1) (N := 3) rfl rfl (Nat.le_of_ble_eq_true rfl) dX1_roomOn_2 ⟨Nat.le_of_ble_eq_true rfl, Nat.le_of_ble_eq_true rfl⟩) (fun v2 S1 hf H locs hH => ?_)
  refine lv_if_eq (tgt := 30) hx hb dX1_roomOn_5 (by decide) (fun c3 => ?_) (fun c3 => ?_)
  · have hf := (if_pos c3).mp hf
    refine lv_iconst (v := 0) hx hb dX1_roomOn_30 (by decide) ?_
    exact q_retI X hH hr hlk hf (Nat.zero_le _) (Nat.zero_le _) dX1_roomOn_31
  · have hf := (if_neg c3).mp hf
    refine lv_aload_n hx hb dX1_roomOn_8 rfl (lv_at hl 0 rfl) ?_
    refine lv_iload_n hx hb dX1_roomOn_9 rfl (lv_at hl 2 rfl) ?_
    obtain ⟨hb1, hb2, hf⟩ := hf
    refine q_backI0 X hH (q_runV [.int a2] [] X hH hl (c_X1_isThere l D cy G X.2.2.2.1 S1 a0 a2 _ _ hf) mf_X1_isThere mv_X1_isThere tw_525 ⟨Nat.le_of_ble_eq_true rfl, Nat.le_of_ble_eq_true rfl⟩ hb1 hb2 (T := TX1) (N := 3) rfl rfl (Nat.le_of_ble_eq_true rfl) dX1_roomOn_10 ⟨Nat.le_of_ble_eq_true rfl, Nat.le_of_ble_eq_true rfl⟩) (fun v5 S4 hf H locs hH => ?_)
    refine lv_if_eq (tgt := 30) hx hb dX1_roomOn_13 (by decide) (fun c6 => ?_) (fun c6 => ?_)
    · have hf := (if_pos c6).mp hf
      refine lv_iconst (v := 0) hx hb dX1_roomOn_30 (by decide) ?_
      exact q_retI X hH hr hlk hf (Nat.zero_le _) (Nat.zero_le _) dX1_roomOn_31
    · have hf := (if_neg c6).mp hf
      refine lv_aload_n hx hb dX1_roomOn_16 rfl (lv_at hl 0 rfl) ?_
      refine q_getR (T := TX1) (N := 3) X hH hf iw_X1 rfl (by decide) tw_227 (fun _ h => h) dX1_roomOn_17 (fun v7 hf => ?_)
      refine lv_iload_n hx hb dX1_roomOn_20 rfl (lv_at hl 1 rfl) ?_
      refine lv_bipush (v := 9) hx hb dX1_roomOn_21 (by decide) ?_
      refine lv_imul hx hb dX1_roomOn_23 ?_
      refine lv_iload_n hx hb dX1_roomOn_24 rfl (lv_at hl 2 rfl) ?_
      refine lv_iadd hx hb dX1_roomOn_25 ?_
      refine q_iald X hH hf dX1_roomOn_26 (fun v8 hf => ?_)
      refine lv_goto (tgt := 31) hx hb dX1_roomOn_27 (by decide) ?_
      exact q_retI X hH hr hlk hf (Nat.zero_le _) (Nat.zero_le _) dX1_roomOn_31
-- X1_widen
def f_X1_widen (S : PS) (a0 : Nat) (a1 : Int32) (a2 : Int32) (a3 : Int32) (post : PS → Prop) : Prop :=
  isO S a0 5 (
  f_X1_isThere S a0 a1 fun v2 S1 => (
  if v2 = 0 then
    post S1
  else
    isO S1 a0 5 (
    f_X1_isThere S1 a0 a2 fun v5 S4 => (
    if v5 = 0 then
      post S4
    else
      gR S4 a0 5 0 fun v7 => (
      aI S4 v7 0 ((a1 * 9) + a2) fun v8 => (
      sI S4 v7 0 ((a1 * 9) + a2) (v8 + a3) fun S9 => (
      post S9)))))))
abbrev rm_X1_widen : Room := { frames := 1, cells := 0, slots := 0, locals := 21 }
set_option maxHeartbeats 4000000 in
set_option maxRecDepth 100000 in
theorem c_X1_widen (l : Launch) (D : va_G) (cy : Nat → ClassId) (G : p_GT) (hG : p_ok G) (S : PS) (a0 : Nat) (a1 : Int32) (a2 : Int32) (a3 : Int32) (post : PS → Prop) (sz : Nat) (hf : f_X1_widen S a0 a1 a2 a3 post) : p_Mv l D cy G S sz yX1_widen (Cond.code yX1_widen cX1_widen 4 none :: wG) rm_X1_widen [.ref a0, .int a1, .int a2, .int a3] 0 0 post := by
  refine q_start hG (Qc := fun A => va_Qv post (p_Post D cy A) A) mf_X1_widen (Nat.le_of_ble_eq_true rfl) (own := RX1) rfl ?_
  intro p e s m below meth c A X hr hlk hnm ls hl hH
  have hx := X.1.1
  have hb := X.1.2.1
  replace hl : lv_has ls 4 [(0, .ref a0), (1, .int a1), (2, .int a2), (3, .int a3)] := hl
  obtain ⟨H, hHe⟩ : ∃ H, H = s.heap := ⟨_, rfl⟩
  obtain ⟨locs, hlo⟩ : ∃ locs : List Loc, locs = [] := ⟨_, rfl⟩
  rw [← hHe, ← hlo] at hH
  show W p l e rm_X1_widen s m [.ref a0, .int a1, .int a2, .int a3].toArray below meth c s.heap [] 0 0 _ _
  rw [← hHe, ← hlo]
  refine lv_aload_n hx hb dX1_widen_0 rfl (lv_at hl 0 rfl) ?_
  refine lv_iload_n hx hb dX1_widen_1 rfl (lv_at hl 1 rfl) ?_
  obtain ⟨hb1, hb2, hf⟩ := hf
  refine q_backI0 X hH (q_runV [.int a1] [] X hH hl (c_X1_isThere l D cy G X.2.2.2.1 S a0 a1 _ _ hf) mf_X1_isThere mv_X1_isThere tw_525 ⟨Nat.le_of_ble_eq_true rfl, Nat.le_of_ble_eq_true rfl⟩ hb1 hb2 (T := TX1) (N := 3) rfl rfl (Nat.le_of_ble_eq_true rfl) dX1_widen_2 ⟨Nat.le_of_ble_eq_true rfl, Nat.le_of_ble_eq_true rfl⟩) (fun v2 S1 hf H locs hH => ?_)
  refine lv_if_eq (tgt := 31) hx hb dX1_widen_5 (by decide) (fun c3 => ?_) (fun c3 => ?_)
  · have hf := (if_pos c3).mp hf
    exact q_retV X hH hr hlk hf (Nat.zero_le _) (Nat.zero_le _) dX1_widen_31
  · have hf := (if_neg c3).mp hf
    refine lv_aload_n hx hb dX1_widen_8 rfl (lv_at hl 0 rfl) ?_
    refine lv_iload_n hx hb dX1_widen_9 rfl (lv_at hl 2 rfl) ?_
    obtain ⟨hb1, hb2, hf⟩ := hf
    refine q_backI0 X hH (q_runV [.int a2] [] X hH hl (c_X1_isThere l D cy G X.2.2.2.1 S1 a0 a2 _ _ hf) mf_X1_isThere mv_X1_isThere tw_525 ⟨Nat.le_of_ble_eq_true rfl, Nat.le_of_ble_eq_true rfl⟩ hb1 hb2 (T := TX1) (N := 3) rfl rfl (Nat.le_of_ble_eq_true rfl) dX1_widen_10 ⟨Nat.le_of_ble_eq_true rfl, Nat.le_of_ble_eq_true rfl⟩) (fun v5 S4 hf H locs hH => ?_)
    refine lv_if_eq (tgt := 31) hx hb dX1_widen_13 (by decide) (fun c6 => ?_) (fun c6 => ?_)
    · have hf := (if_pos c6).mp hf
      exact q_retV X hH hr hlk hf (Nat.zero_le _) (Nat.zero_le _) dX1_widen_31
    · have hf := (if_neg c6).mp hf
      refine lv_aload_n hx hb dX1_widen_16 rfl (lv_at hl 0 rfl) ?_
      refine q_getR (T := TX1) (N := 3) X hH hf iw_X1 rfl (by decide) tw_227 (fun _ h => h) dX1_widen_17 (fun v7 hf => ?_)
      refine lv_iload_n hx hb dX1_widen_20 rfl (lv_at hl 1 rfl) ?_
      refine lv_bipush (v := 9) hx hb dX1_widen_21 (by decide) ?_
      refine lv_imul hx hb dX1_widen_23 ?_
      refine lv_iload_n hx hb dX1_widen_24 rfl (lv_at hl 2 rfl) ?_
      refine lv_iadd hx hb dX1_widen_25 ?_
      refine lv_dup2_11 hx hb dX1_widen_26 rfl rfl ?_
      refine q_iald X hH hf dX1_widen_27 (fun v8 hf => ?_)
      refine lv_iload_n hx hb dX1_widen_28 rfl (lv_at hl 3 rfl) ?_
      refine lv_iadd hx hb dX1_widen_29 ?_
      refine q_iast X hH hf dX1_widen_30 (fun S9 hf H locs hH => ?_)
      exact q_retV X hH hr hlk hf (Nat.zero_le _) (Nat.zero_le _) dX1_widen_31
-- X2_keep
def f_X2_keep_J61 (post : PS → Prop) (S : PS) (bc bs : Nat) (l0 : Nat) (t0 : Int32) (t1 : Nat) : Prop :=
  pV S t1 6 1 (.int t0) fun S1 => (
  gI S1 l0 6 2 fun v2 => (
  pV S1 l0 6 2 (.int ((if 8 < (v2 + 1) then 8 else (v2 + 1)))) fun S3 => (
  post S3)))
def f_X2_keep_J28 (post : PS → Prop) (S : PS) (bc bs : Nat) (l0 : Nat) (l1 : Nat) : Prop :=
  gR S l0 6 0 fun v1 => (
  gI S l0 6 1 fun v2 => (
  aR S v1 v2 fun v3 => (
  isO S v3 10 (
  f_X6_copyFrom S v3 l1 fun S4 => (
  gI S4 l0 6 1 fun v6 => (
  if v6 = 7 then
    f_X2_keep_J61 post S4 bc bs l0 0 l0
  else
    gI S4 l0 6 1 fun v8 => (
    f_X2_keep_J61 post S4 bc bs l0 (v8 + 1) l0)))))))
def f_X2_keep (S : PS) (a0 : Nat) (a1 : Nat) (bc bs : Nat) (post : PS → Prop) : Prop :=
  gR S a0 6 0 fun v1 => (
  gI S a0 6 1 fun v2 => (
  aO S v1 v2 fun v3 => (
  match v3 with
  | none =>
    gR S a0 6 0 fun v5 => (
    gI S a0 6 1 fun v6 => (
    nO S 10 [.null, .int 0, .int 0, .int 0, .int 0, .int 0] 6 bc bs fun q7 S8 bc9 bs10 => (
    ∃ mc12 ms12 : Nat, mc12 ≤ bc9 ∧ ms12 ≤ bs10 ∧ (f_X6_init S8 q7 mc12 ms12 fun S11 => (
    sO S11 v5 v6 q7 fun S14 => (
    f_X2_keep_J28 post S14 (bc9 - mc12) (bs10 - ms12) a0 a1))))))
  | some _ =>
    f_X2_keep_J28 post S bc bs a0 a1)))
abbrev rm_X2_keep (mc ms : Nat) : Room := { frames := 2, cells := mc, slots := ms, locals := 81 }
set_option maxHeartbeats 4000000 in
set_option maxRecDepth 100000 in
theorem c_X2_keep (l : Launch) (D : va_G) (cy : Nat → ClassId) (G : p_GT) (hG : p_ok G) (S : PS) (a0 : Nat) (a1 : Nat) (mc ms : Nat) (post : PS → Prop) (sz : Nat) (hf : f_X2_keep S a0 a1 mc ms post) : p_Mv l D cy G S sz yX2_keep (Cond.code yX2_keep cX2_keep 2 none :: wG) (rm_X2_keep mc ms) [.ref a0, .ref a1] mc ms post := by
  refine q_start hG (Qc := fun A => va_Qv post (p_Post D cy A) A) mf_X2_keep (Nat.le_of_ble_eq_true rfl) (own := RX2) rfl ?_
  intro p e s m below meth c A X hr hlk hnm ls hl hH
  have hx := X.1.1
  have hb := X.1.2.1
  replace hl : lv_has ls 2 [(0, .ref a0), (1, .ref a1)] := hl
  have main : ∀ (H : Heap) (locs : List Loc) (ls : Array Slot) (cells slots bc bs : Nat), f_X2_keep S a0 a1 bc bs post → p_H D cy S A s H locs → lv_has ls 2 [(0, .ref a0), (1, .ref a1)] → cells + bc ≤ mc ∧ slots + bs ≤ ms → W p l e (rm_X2_keep mc ms) s m [.ref a0, .ref a1].toArray below meth c H locs cells slots (MQ below (va_Qv post (p_Post D cy A) A) [.ref a0, .ref a1].toArray s mc ms A) (F0 m 0 ls []) := by
    intro H locs ls cells slots bc bs hf hH hl hB
    have hJ28 : ∀ (S : PS) (bc bs : Nat) (l0 : Nat) (l1 : Nat), f_X2_keep_J28 post S bc bs l0 l1 → ∀ (H : Heap) (locs : List Loc) (ls : Array Slot) (cells slots : Nat), p_H D cy S A s H locs → lv_has ls 2 [(0, .ref l0), (1, .ref l1)] → cells + bc ≤ mc ∧ slots + bs ≤ ms → W p l e (rm_X2_keep mc ms) s m [.ref a0, .ref a1].toArray below meth c H locs cells slots (MQ below (va_Qv post (p_Post D cy A) A) [.ref a0, .ref a1].toArray s mc ms A) (F0 m 28 ls []) := by
      intro S bc bs l0 l1 hf H locs ls cells slots hH hl hB
      have hJ61 : ∀ (S : PS) (bc bs : Nat) (l0 : Nat) (t0 : Int32) (t1 : Nat), f_X2_keep_J61 post S bc bs l0 t0 t1 → ∀ (H : Heap) (locs : List Loc) (ls : Array Slot) (cells slots : Nat), p_H D cy S A s H locs → lv_has ls 2 [(0, .ref l0)] → cells + bc ≤ mc ∧ slots + bs ≤ ms → W p l e (rm_X2_keep mc ms) s m [.ref a0, .ref a1].toArray below meth c H locs cells slots (MQ below (va_Qv post (p_Post D cy A) A) [.ref a0, .ref a1].toArray s mc ms A) (F0 m 61 ls [.int t0, .ref t1]) := by
        intro S bc bs l0 t0 t1 hf H locs ls cells slots hH hl hB
        refine q_putV (T := TX2) (N := 3) (ty0 := tyX2) (ty := tyX2 1) X hH hf iw_X2 tyX2_ok nmX2 rfl (by decide) tw_174 (fun _ h => h) rfl (tyX2_ok 1 (by decide)) rfl rfl dX2_keep_61 (fun S1 hf H locs hH => ?_)
        refine lv_aload_n hx hb dX2_keep_64 rfl (lv_at hl 0 rfl) ?_
        refine lv_aload_n hx hb dX2_keep_65 rfl (lv_at hl 0 rfl) ?_
        refine q_getI (T := TX2) (N := 3) X hH hf iw_X2 rfl (by decide) tw_175 (fun _ h => h) dX2_keep_66 (fun v2 hf => ?_)
        refine lv_iconst (v := 1) hx hb dX2_keep_69 (by decide) ?_
        refine lv_iadd hx hb dX2_keep_70 ?_
        refine lv_bipush (v := 8) hx hb dX2_keep_71 (by decide) ?_
        refine q_mmin X hl tw_1013 tw_475 tw_110 tw_476 ⟨Nat.le_of_ble_eq_true rfl, Nat.le_of_ble_eq_true rfl⟩ (Nat.le_of_ble_eq_true rfl) (Nat.le_trans (Nat.le_add_right _ _) hB.1) (Nat.le_trans (Nat.le_add_right _ _) hB.2) dX2_keep_73 ?_
        refine q_putV (T := TX2) (N := 3) (ty0 := tyX2) (ty := tyX2 2) X hH hf iw_X2 tyX2_ok nmX2 rfl (by decide) tw_175 (fun _ h => h) rfl (tyX2_ok 2 (by decide)) rfl rfl dX2_keep_76 (fun S3 hf H locs hH => ?_)
        exact q_retV X hH hr hlk hf (Nat.le_trans (Nat.le_add_right _ _) hB.1) (Nat.le_trans (Nat.le_add_right _ _) hB.2) dX2_keep_79
      refine lv_aload_n hx hb dX2_keep_28 rfl (lv_at hl 0 rfl) ?_
      refine q_getR (T := TX2) (N := 3) X hH hf iw_X2 rfl (by decide) tw_173 (fun _ h => h) dX2_keep_29 (fun v1 hf => ?_)
      refine lv_aload_n hx hb dX2_keep_32 rfl (lv_at hl 0 rfl) ?_
      refine q_getI (T := TX2) (N := 3) X hH hf iw_X2 rfl (by decide) tw_174 (fun _ h => h) dX2_keep_33 (fun v2 hf => ?_)
      refine q_aaldR X hH hf dX2_keep_36 (fun v3 hf => ?_)
      refine lv_aload_n hx hb dX2_keep_37 rfl (lv_at hl 1 rfl) ?_
      obtain ⟨hb1, hb2, hf⟩ := hf
      refine q_backV0 X hH (q_runV [.ref l1] [] X hH hl (c_X6_copyFrom l D cy G X.2.2.2.1 S v3 l1 _ _ hf) mf_X6_copyFrom mv_X6_copyFrom tw_1012 ⟨Nat.le_of_ble_eq_true rfl, Nat.le_of_ble_eq_true rfl⟩ hb1 hb2 (T := TX6) (N := 6) rfl rfl (Nat.le_of_ble_eq_true rfl) dX2_keep_38 ⟨Nat.le_trans (Nat.le_add_right _ _) hB.1, Nat.le_trans (Nat.le_add_right _ _) hB.2⟩) (fun S4 hf H locs hH => ?_)
      refine lv_aload_n hx hb dX2_keep_41 rfl (lv_at hl 0 rfl) ?_
      refine lv_aload_n hx hb dX2_keep_42 rfl (lv_at hl 0 rfl) ?_
      refine q_getI (T := TX2) (N := 3) X hH hf iw_X2 rfl (by decide) tw_174 (fun _ h => h) dX2_keep_43 (fun v6 hf => ?_)
      refine lv_bipush (v := 7) hx hb dX2_keep_46 (by decide) ?_
      refine lv_icmp_ne (tgt := 55) hx hb dX2_keep_48 (by decide) (fun c7 => ?_) (fun c7 => ?_)
      · have hf := (if_neg c7).mp hf
        refine lv_aload_n hx hb dX2_keep_55 rfl (lv_at hl 0 rfl) ?_
        refine q_getI (T := TX2) (N := 3) X hH hf iw_X2 rfl (by decide) tw_174 (fun _ h => h) dX2_keep_56 (fun v8 hf => ?_)
        refine lv_iconst (v := 1) hx hb dX2_keep_59 (by decide) ?_
        refine lv_iadd hx hb dX2_keep_60 ?_
        exact hJ61 S4 bc bs l0 (v8 + 1) l0 hf H locs ls cells slots hH (lv_sub hl [0] rfl) hB
      · have hf := (if_pos c7).mp hf
        refine lv_iconst (v := 0) hx hb dX2_keep_51 (by decide) ?_
        refine lv_goto (tgt := 61) hx hb dX2_keep_52 (by decide) ?_
        exact hJ61 S4 bc bs l0 0 l0 hf H locs ls cells slots hH (lv_sub hl [0] rfl) hB
    refine lv_aload_n hx hb dX2_keep_0 rfl (lv_at hl 0 rfl) ?_
    refine q_getR (T := TX2) (N := 3) X hH hf iw_X2 rfl (by decide) tw_173 (fun _ h => h) dX2_keep_1 (fun v1 hf => ?_)
    refine lv_aload_n hx hb dX2_keep_4 rfl (lv_at hl 0 rfl) ?_
    refine q_getI (T := TX2) (N := 3) X hH hf iw_X2 rfl (by decide) tw_174 (fun _ h => h) dX2_keep_5 (fun v2 hf => ?_)
    refine q_aald X hH hf dX2_keep_8 (fun v3 hf => ?_)
    cases v3 with
    | none =>
      refine lv_ifnonnullN hx hb dX2_keep_9 ?_
      refine lv_aload_n hx hb dX2_keep_12 rfl (lv_at hl 0 rfl) ?_
      refine q_getR (T := TX2) (N := 3) X hH hf iw_X2 rfl (by decide) tw_173 (fun _ h => h) dX2_keep_13 (fun v5 hf => ?_)
      refine lv_aload_n hx hb dX2_keep_16 rfl (lv_at hl 0 rfl) ?_
      refine q_getI (T := TX2) (N := 3) X hH hf iw_X2 rfl (by decide) tw_174 (fun _ h => h) dX2_keep_17 (fun v6 hf => ?_)
      refine q_new (T := TX6) (N := 6) X hH hB hf iw_X6 tyX6 tyX6_ok rfl tw_171 tw_133 tw_93 (fun j hj => by rcases (show j = 0 ∨ j = 1 ∨ j = 2 ∨ j = 3 ∨ j = 4 ∨ j = 5 by omega) with rfl | rfl | rfl | rfl | rfl | rfl <;> rfl) dX2_keep_20 (fun q7 S8 bc9 bs10 hf H locs cells slots hH hB => ?_)
      refine lv_dup hx hb dX2_keep_23 rfl ?_
      obtain ⟨mc12, ms12, hm1, hs1, hf⟩ := hf
      refine q_backVB X hH hB hm1 hs1 (q_runIN [] [.ref q7, .int v6, .ref v5] X hH hl (c_X6_init l D cy G X.2.2.2.1 S8 q7 mc12 ms12 _ _ hf) mf_X6_init tw_135 (List.mem_of_getElem? (i := 17) rfl) ⟨Nat.le_of_ble_eq_true rfl, Nat.le_of_ble_eq_true rfl⟩ rfl (Nat.le_of_ble_eq_true rfl) dX2_keep_24 ⟨Nat.le_trans (Nat.add_le_add_left hm1 _) hB.1, Nat.le_trans (Nat.add_le_add_left hs1 _) hB.2⟩) (fun S11 hf H locs cells slots hH hB => ?_)
      refine q_aast X hH hf dX2_keep_27 (fun S14 hf H locs hH => ?_)
      exact hJ28 S14 (bc9 - mc12) (bs10 - ms12) a0 a1 hf H locs ls cells slots hH hl hB
    | some w4 =>
      refine lv_ifnonnull (tgt := 28) hx hb dX2_keep_9 (by decide) ?_
      exact hJ28 S bc bs a0 a1 hf H locs ls cells slots hH hl hB
  exact main s.heap [] ls 0 0 mc ms hf hH hl ⟨by omega, by omega⟩
-- X2_takesBack
def f_X2_takesBack_J18 (post : Int32 → PS → Prop) (S : PS) (l0 : Nat) (l1 : Nat) (t0 : Int32) : Prop :=
  gI S l0 6 2 fun v1 => (
  if v1 = 0 then
    nZ .boolean 0 (post 0 S)
  else
    gR S l0 6 0 fun v3 => (
    aO S v3 t0 fun v4 => (
    match v4 with
    | none =>
      nZ .boolean 0 (post 0 S)
    | some _ =>
      gR S l0 6 0 fun v6 => (
      aR S v6 t0 fun v7 => (
      isO S l1 10 (
      f_X6_copyFrom S l1 v7 fun S8 => (
      pV S8 l0 6 1 (.int t0) fun S10 => (
      gI S10 l0 6 2 fun v11 => (
      pV S10 l0 6 2 (.int (v11 - 1)) fun S12 => (
      nZ .boolean 1 (post 1 S12)))))))))))
def f_X2_takesBack (S : PS) (a0 : Nat) (a1 : Nat) (post : Int32 → PS → Prop) : Prop :=
  gI S a0 6 1 fun v1 => (
  if v1 = 0 then
    f_X2_takesBack_J18 post S a0 a1 7
  else
    gI S a0 6 1 fun v3 => (
    f_X2_takesBack_J18 post S a0 a1 (v3 - 1)))
abbrev rm_X2_takesBack : Room := { frames := 2, cells := 0, slots := 0, locals := 81 }
set_option maxHeartbeats 4000000 in
set_option maxRecDepth 100000 in
theorem c_X2_takesBack (l : Launch) (D : va_G) (cy : Nat → ClassId) (G : p_GT) (hG : p_ok G) (S : PS) (a0 : Nat) (a1 : Nat) (post : Int32 → PS → Prop) (sz : Nat) (hf : f_X2_takesBack S a0 a1 post) : p_Mi l D cy G S sz yX2_takesBack (Cond.code yX2_takesBack cX2_takesBack 3 (some .boolean) :: wG) rm_X2_takesBack [.ref a0, .ref a1] 0 0 post := by
  refine q_start hG (Qc := fun A => va_Qi post (p_Post D cy A) A) mf_X2_takesBack (Nat.le_of_ble_eq_true rfl) (own := RX2) rfl ?_
  intro p e s m below meth c A X hr hlk hnm ls hl hH
  have hx := X.1.1
  have hb := X.1.2.1
  replace hl : lv_has ls 3 [(0, .ref a0), (1, .ref a1)] := hl
  obtain ⟨H, hHe⟩ : ∃ H, H = s.heap := ⟨_, rfl⟩
  obtain ⟨locs, hlo⟩ : ∃ locs : List Loc, locs = [] := ⟨_, rfl⟩
  rw [← hHe, ← hlo] at hH
  show W p l e rm_X2_takesBack s m [.ref a0, .ref a1].toArray below meth c s.heap [] 0 0 _ _
  rw [← hHe, ← hlo]
  have hJ18 : ∀ (S : PS) (l0 : Nat) (l1 : Nat) (t0 : Int32), f_X2_takesBack_J18 post S l0 l1 t0 → ∀ (H : Heap) (locs : List Loc) (ls : Array Slot), p_H D cy S A s H locs → lv_has ls 3 [(0, .ref l0), (1, .ref l1)] → W p l e rm_X2_takesBack s m [.ref a0, .ref a1].toArray below meth c H locs 0 0 (MQ below (va_Qi post (p_Post D cy A) A) [.ref a0, .ref a1].toArray s 0 0 A) (F0 m 18 ls [.int t0]) := by
    intro S l0 l1 t0 hf H locs ls hH hl
    refine lv_istore_n (lv' := [(2, .int t0), (0, .ref l0), (1, .ref l1)]) hx hb dX2_takesBack_18 rfl hl (by decide) rfl (fun ls hl => ?_)
    refine lv_aload_n hx hb dX2_takesBack_19 rfl (lv_at hl 1 rfl) ?_
    refine q_getI (T := TX2) (N := 3) X hH hf iw_X2 rfl (by decide) tw_175 (fun _ h => h) dX2_takesBack_20 (fun v1 hf => ?_)
    refine lv_if_eq (tgt := 35) hx hb dX2_takesBack_23 (by decide) (fun c2 => ?_) (fun c2 => ?_)
    · have hf := (if_pos c2).mp hf
      refine lv_iconst (v := 0) hx hb dX2_takesBack_35 (by decide) ?_
      exact q_retZ X hH hr hlk hf (Nat.zero_le _) (Nat.zero_le _) dX2_takesBack_36
    · have hf := (if_neg c2).mp hf
      refine lv_aload_n hx hb dX2_takesBack_26 rfl (lv_at hl 1 rfl) ?_
      refine q_getR (T := TX2) (N := 3) X hH hf iw_X2 rfl (by decide) tw_173 (fun _ h => h) dX2_takesBack_27 (fun v3 hf => ?_)
      refine lv_iload_n hx hb dX2_takesBack_30 rfl (lv_at hl 0 rfl) ?_
      refine q_aald X hH hf dX2_takesBack_31 (fun v4 hf => ?_)
      cases v4 with
      | none =>
        refine lv_ifnonnullN hx hb dX2_takesBack_32 ?_
        refine lv_iconst (v := 0) hx hb dX2_takesBack_35 (by decide) ?_
        exact q_retZ X hH hr hlk hf (Nat.zero_le _) (Nat.zero_le _) dX2_takesBack_36
      | some w5 =>
        refine lv_ifnonnull (tgt := 37) hx hb dX2_takesBack_32 (by decide) ?_
        refine lv_aload_n hx hb dX2_takesBack_37 rfl (lv_at hl 2 rfl) ?_
        refine lv_aload_n hx hb dX2_takesBack_38 rfl (lv_at hl 1 rfl) ?_
        refine q_getR (T := TX2) (N := 3) X hH hf iw_X2 rfl (by decide) tw_173 (fun _ h => h) dX2_takesBack_39 (fun v6 hf => ?_)
        refine lv_iload_n hx hb dX2_takesBack_42 rfl (lv_at hl 0 rfl) ?_
        refine q_aaldR X hH hf dX2_takesBack_43 (fun v7 hf => ?_)
        obtain ⟨hb1, hb2, hf⟩ := hf
        refine q_backV0 X hH (q_runV [.ref v7] [] X hH hl (c_X6_copyFrom l D cy G X.2.2.2.1 S l1 v7 _ _ hf) mf_X6_copyFrom mv_X6_copyFrom tw_1012 ⟨Nat.le_of_ble_eq_true rfl, Nat.le_of_ble_eq_true rfl⟩ hb1 hb2 (T := TX6) (N := 6) rfl rfl (Nat.le_of_ble_eq_true rfl) dX2_takesBack_44 ⟨Nat.le_of_ble_eq_true rfl, Nat.le_of_ble_eq_true rfl⟩) (fun S8 hf H locs hH => ?_)
        refine lv_aload_n hx hb dX2_takesBack_47 rfl (lv_at hl 1 rfl) ?_
        refine lv_iload_n hx hb dX2_takesBack_48 rfl (lv_at hl 0 rfl) ?_
        refine q_putV (T := TX2) (N := 3) (ty0 := tyX2) (ty := tyX2 1) X hH hf iw_X2 tyX2_ok nmX2 rfl (by decide) tw_174 (fun _ h => h) rfl (tyX2_ok 1 (by decide)) rfl rfl dX2_takesBack_49 (fun S10 hf H locs hH => ?_)
        refine lv_aload_n hx hb dX2_takesBack_52 rfl (lv_at hl 1 rfl) ?_
        refine lv_dup hx hb dX2_takesBack_53 rfl ?_
        refine q_getI (T := TX2) (N := 3) X hH hf iw_X2 rfl (by decide) tw_175 (fun _ h => h) dX2_takesBack_54 (fun v11 hf => ?_)
        refine lv_iconst (v := 1) hx hb dX2_takesBack_57 (by decide) ?_
        refine lv_isub hx hb dX2_takesBack_58 ?_
        refine q_putV (T := TX2) (N := 3) (ty0 := tyX2) (ty := tyX2 2) X hH hf iw_X2 tyX2_ok nmX2 rfl (by decide) tw_175 (fun _ h => h) rfl (tyX2_ok 2 (by decide)) rfl rfl dX2_takesBack_59 (fun S12 hf H locs hH => ?_)
        refine lv_iconst (v := 1) hx hb dX2_takesBack_62 (by decide) ?_
        exact q_retZ X hH hr hlk hf (Nat.zero_le _) (Nat.zero_le _) dX2_takesBack_63
  refine lv_aload_n hx hb dX2_takesBack_0 rfl (lv_at hl 0 rfl) ?_
  refine q_getI (T := TX2) (N := 3) X hH hf iw_X2 rfl (by decide) tw_174 (fun _ h => h) dX2_takesBack_1 (fun v1 hf => ?_)
  refine lv_if_ne (tgt := 12) hx hb dX2_takesBack_4 (by decide) (fun c2 => ?_) (fun c2 => ?_)
  · have hf := (if_neg c2).mp hf
    refine lv_aload_n hx hb dX2_takesBack_12 rfl (lv_at hl 0 rfl) ?_
    refine q_getI (T := TX2) (N := 3) X hH hf iw_X2 rfl (by decide) tw_174 (fun _ h => h) dX2_takesBack_13 (fun v3 hf => ?_)
    refine lv_iconst (v := 1) hx hb dX2_takesBack_16 (by decide) ?_
    refine lv_isub hx hb dX2_takesBack_17 ?_
    exact hJ18 S a0 a1 (v3 - 1) hf H locs ls hH hl
  · have hf := (if_pos c2).mp hf
    refine lv_bipush (v := 7) hx hb dX2_takesBack_7 (by decide) ?_
    refine lv_goto (tgt := 18) hx hb dX2_takesBack_9 (by decide) ?_
    exact hJ18 S a0 a1 7 hf H locs ls hH hl
-- X3_strongestOf
def f_X3_strongestOf_J45 (post : Int32 → PS → Prop) (g7 : PS → Nat → Int32 → Int32 → Int32 → Int32 → Prop) (S : PS) (l0 : Nat) (l1 : Int32) (l2 : Int32) (l3 : Int32) (l4 : Int32) : Prop :=
  g7 S l0 l1 l2 l3 (l4 + 1)
def f_X3_strongestOf_L7 (post : Int32 → PS → Prop) : Nat → PS → Nat → Int32 → Int32 → Int32 → Int32 → Prop
  | 0, _, _, _, _, _, _ => False
  | n + 1, S, l0, l1, l2, l3, l4 =>
  if 9 ≤ l4 then
    post l2 S
  else
    f_X7_isIn S l1 l4 fun v3 S2 => (
    if v3 = 0 then
      f_X3_strongestOf_J45 post (f_X3_strongestOf_L7 post n) S2 l0 l1 l2 l3 l4
    else
      gR S2 l0 7 4 fun v5 => (
      aI S2 v5 0 l4 fun v6 => (
      if v6 ≤ l3 then
        f_X3_strongestOf_J45 post (f_X3_strongestOf_L7 post n) S2 l0 l1 l2 l3 l4
      else
        gR S2 l0 7 4 fun v8 => (
        aI S2 v8 0 l4 fun v9 => (
        f_X3_strongestOf_J45 post (f_X3_strongestOf_L7 post n) S2 l0 l1 l4 v9 l4)))))
def f_X3_strongestOf (S : PS) (a0 : Nat) (a1 : Int32) (post : Int32 → PS → Prop) : Prop :=
  f_X3_strongestOf_L7 post 4096 S a0 a1 0 (-1) 0
abbrev rm_X3_strongestOf : Room := { frames := 1, cells := 0, slots := 0, locals := 21 }
set_option maxHeartbeats 4000000 in
set_option maxRecDepth 100000 in
theorem c_X3_strongestOf (l : Launch) (D : va_G) (cy : Nat → ClassId) (G : p_GT) (hG : p_ok G) (S : PS) (a0 : Nat) (a1 : Int32) (post : Int32 → PS → Prop) (sz : Nat) (hf : f_X3_strongestOf S a0 a1 post) : p_Mi l D cy G S sz yX3_strongestOf (Cond.code yX3_strongestOf cX3_strongestOf 5 (some .int) :: wG) rm_X3_strongestOf [.ref a0, .int a1] 0 0 post := by
  refine q_start hG (Qc := fun A => va_Qi post (p_Post D cy A) A) mf_X3_strongestOf (Nat.le_of_ble_eq_true rfl) (own := RX3) rfl ?_
  intro p e s m below meth c A X hr hlk hnm ls hl hH
  have hx := X.1.1
  have hb := X.1.2.1
  replace hl : lv_has ls 5 [(0, .ref a0), (1, .int a1)] := hl
  obtain ⟨H, hHe⟩ : ∃ H, H = s.heap := ⟨_, rfl⟩
  obtain ⟨locs, hlo⟩ : ∃ locs : List Loc, locs = [] := ⟨_, rfl⟩
  rw [← hHe, ← hlo] at hH
  show W p l e rm_X3_strongestOf s m [.ref a0, .int a1].toArray below meth c s.heap [] 0 0 _ _
  rw [← hHe, ← hlo]
  have hL7 : ∀ (n7 : Nat) (S : PS) (l0 : Nat) (l1 : Int32) (l2 : Int32) (l3 : Int32) (l4 : Int32), f_X3_strongestOf_L7 post n7 S l0 l1 l2 l3 l4 → ∀ (H : Heap) (locs : List Loc) (ls : Array Slot), p_H D cy S A s H locs → lv_has ls 5 [(0, .ref l0), (1, .int l1), (2, .int l2), (3, .int l3), (4, .int l4)] → W p l e rm_X3_strongestOf s m [.ref a0, .int a1].toArray below meth c H locs 0 0 (MQ below (va_Qi post (p_Post D cy A) A) [.ref a0, .int a1].toArray s 0 0 A) (F0 m 7 ls []) := by
    intro n7
    induction n7 with
    | zero => intro S l0 l1 l2 l3 l4 hf; exact hf.elim
    | succ n7 ih7 =>
      intro S l0 l1 l2 l3 l4 hf H locs ls hH hl
      have hJ45 : ∀ (S : PS) (l0 : Nat) (l1 : Int32) (l2 : Int32) (l3 : Int32) (l4 : Int32), f_X3_strongestOf_J45 post (f_X3_strongestOf_L7 post n7) S l0 l1 l2 l3 l4 → ∀ (H : Heap) (locs : List Loc) (ls : Array Slot), p_H D cy S A s H locs → lv_has ls 5 [(0, .ref l0), (1, .int l1), (2, .int l2), (3, .int l3), (4, .int l4)] → W p l e rm_X3_strongestOf s m [.ref a0, .int a1].toArray below meth c H locs 0 0 (MQ below (va_Qi post (p_Post D cy A) A) [.ref a0, .int a1].toArray s 0 0 A) (F0 m 45 ls []) := by
        intro S l0 l1 l2 l3 l4 hf H locs ls hH hl
        refine lv_iinc (v := l4 + 1) (lv' := [(4, .int (l4 + 1)), (0, .ref l0), (1, .int l1), (2, .int l2), (3, .int l3)]) hx hb dX3_strongestOf_45 hl (k := 4) rfl rfl (by decide) rfl (fun ls hl => ?_)
        refine lv_goto (tgt := 7) hx hb dX3_strongestOf_48 (by decide) ?_
        exact ih7 S l0 l1 l2 l3 (l4 + 1) hf H locs ls hH (lv_sub hl [1, 2, 3, 4, 0] rfl)
      refine lv_iload hx hb dX3_strongestOf_7 (lv_at hl 4 rfl) ?_
      refine lv_bipush (v := 9) hx hb dX3_strongestOf_9 (by decide) ?_
      refine lv_icmp_ge (tgt := 51) hx hb dX3_strongestOf_11 (by decide) (fun c1 => ?_) (fun c1 => ?_)
      · have hf := (if_pos c1).mp hf
        refine lv_iload_n hx hb dX3_strongestOf_51 rfl (lv_at hl 2 rfl) ?_
        exact q_retI X hH hr hlk hf (Nat.zero_le _) (Nat.zero_le _) dX3_strongestOf_52
      · have hf := (if_neg c1).mp hf
        refine lv_iload_n hx hb dX3_strongestOf_14 rfl (lv_at hl 1 rfl) ?_
        refine lv_iload hx hb dX3_strongestOf_15 (lv_at hl 4 rfl) ?_
        refine q_backI0 X hH (q_runSN [.int l1, .int l4] [] X hH hl (c_X7_isIn l D cy G X.2.2.2.1 S l1 l4 _ _ hf) mf_X7_isIn tw_369 (List.mem_of_getElem? (i := 18) rfl) ⟨Nat.le_of_ble_eq_true rfl, Nat.le_of_ble_eq_true rfl⟩ rfl (Nat.le_of_ble_eq_true rfl) dX3_strongestOf_17 ⟨Nat.le_of_ble_eq_true rfl, Nat.le_of_ble_eq_true rfl⟩) (fun v3 S2 hf H locs hH => ?_)
        refine lv_if_eq (tgt := 45) hx hb dX3_strongestOf_20 (by decide) (fun c4 => ?_) (fun c4 => ?_)
        · have hf := (if_pos c4).mp hf
          exact hJ45 S2 l0 l1 l2 l3 l4 hf H locs ls hH hl
        · have hf := (if_neg c4).mp hf
          refine lv_aload_n hx hb dX3_strongestOf_23 rfl (lv_at hl 0 rfl) ?_
          refine q_getR (T := TX3) (N := 6) X hH hf iw_X3 rfl (by decide) tw_193 (fun _ h => h) dX3_strongestOf_24 (fun v5 hf => ?_)
          refine lv_iload hx hb dX3_strongestOf_27 (lv_at hl 4 rfl) ?_
          refine q_iald X hH hf dX3_strongestOf_29 (fun v6 hf => ?_)
          refine lv_iload_n hx hb dX3_strongestOf_30 rfl (lv_at hl 3 rfl) ?_
          refine lv_icmp_le (tgt := 45) hx hb dX3_strongestOf_31 (by decide) (fun c7 => ?_) (fun c7 => ?_)
          · have hf := (if_pos c7).mp hf
            exact hJ45 S2 l0 l1 l2 l3 l4 hf H locs ls hH hl
          · have hf := (if_neg c7).mp hf
            refine lv_aload_n hx hb dX3_strongestOf_34 rfl (lv_at hl 0 rfl) ?_
            refine q_getR (T := TX3) (N := 6) X hH hf iw_X3 rfl (by decide) tw_193 (fun _ h => h) dX3_strongestOf_35 (fun v8 hf => ?_)
            refine lv_iload hx hb dX3_strongestOf_38 (lv_at hl 4 rfl) ?_
            refine q_iald X hH hf dX3_strongestOf_40 (fun v9 hf => ?_)
            refine lv_istore_n (lv' := [(3, .int v9), (0, .ref l0), (1, .int l1), (2, .int l2), (4, .int l4)]) hx hb dX3_strongestOf_41 rfl hl (by decide) rfl (fun ls hl => ?_)
            refine lv_iload hx hb dX3_strongestOf_42 (lv_at hl 4 rfl) ?_
            refine lv_istore_n (lv' := [(2, .int l4), (3, .int v9), (0, .ref l0), (1, .int l1), (4, .int l4)]) hx hb dX3_strongestOf_44 rfl hl (by decide) rfl (fun ls hl => ?_)
            exact hJ45 S2 l0 l1 l4 v9 l4 hf H locs ls hH (lv_sub hl [2, 3, 0, 1, 4] rfl)
  refine lv_iconst (v := 0) hx hb dX3_strongestOf_0 (by decide) ?_
  refine lv_istore_n (lv' := [(2, .int 0), (0, .ref a0), (1, .int a1)]) hx hb dX3_strongestOf_1 rfl hl (by decide) rfl (fun ls hl => ?_)
  refine lv_iconst (v := (-1)) hx hb dX3_strongestOf_2 (by decide) ?_
  refine lv_istore_n (lv' := [(3, .int ((-1))), (2, .int 0), (0, .ref a0), (1, .int a1)]) hx hb dX3_strongestOf_3 rfl hl (by decide) rfl (fun ls hl => ?_)
  refine lv_iconst (v := 0) hx hb dX3_strongestOf_4 (by decide) ?_
  refine lv_istore (lv' := [(4, .int 0), (3, .int ((-1))), (2, .int 0), (0, .ref a0), (1, .int a1)]) hx hb dX3_strongestOf_5 hl (by decide) rfl (fun ls hl => ?_)
  exact hL7 4096 S a0 a1 0 (-1) 0 hf H locs ls hH (lv_sub hl [3, 4, 2, 1, 0] rfl)
-- X3_put
def f_X3_put (S : PS) (a0 : Nat) (a1 : Int32) (a2 : Int32) (a3 : Int32) (post : PS → Prop) : Prop :=
  isO S a0 7 (
  f_X3_hasPlace S a0 a1 a2 fun v2 S1 => (
  if v2 = 0 then
    post S1
  else
    gR S1 a0 7 0 fun v4 => (
    gR S1 a0 7 3 fun v5 => (
    aI S1 v5 0 a3 fun v6 => (
    sI S1 v4 0 ((a1 * 9) + a2) v6 fun S7 => (
    gR S7 a0 7 1 fun v8 => (
    gR S7 a0 7 4 fun v9 => (
    aI S7 v9 0 a3 fun v10 => (
    sI S7 v8 0 ((a1 * 9) + a2) v10 fun S11 => (
    post S11))))))))))
abbrev rm_X3_put : Room := { frames := 1, cells := 0, slots := 0, locals := 22 }
set_option maxHeartbeats 4000000 in
set_option maxRecDepth 100000 in
theorem c_X3_put (l : Launch) (D : va_G) (cy : Nat → ClassId) (G : p_GT) (hG : p_ok G) (S : PS) (a0 : Nat) (a1 : Int32) (a2 : Int32) (a3 : Int32) (post : PS → Prop) (sz : Nat) (hf : f_X3_put S a0 a1 a2 a3 post) : p_Mv l D cy G S sz yX3_put (Cond.code yX3_put cX3_put 4 none :: wG) rm_X3_put [.ref a0, .int a1, .int a2, .int a3] 0 0 post := by
  refine q_start hG (Qc := fun A => va_Qv post (p_Post D cy A) A) mf_X3_put (Nat.le_of_ble_eq_true rfl) (own := RX3) rfl ?_
  intro p e s m below meth c A X hr hlk hnm ls hl hH
  have hx := X.1.1
  have hb := X.1.2.1
  replace hl : lv_has ls 4 [(0, .ref a0), (1, .int a1), (2, .int a2), (3, .int a3)] := hl
  obtain ⟨H, hHe⟩ : ∃ H, H = s.heap := ⟨_, rfl⟩
  obtain ⟨locs, hlo⟩ : ∃ locs : List Loc, locs = [] := ⟨_, rfl⟩
  rw [← hHe, ← hlo] at hH
  show W p l e rm_X3_put s m [.ref a0, .int a1, .int a2, .int a3].toArray below meth c s.heap [] 0 0 _ _
  rw [← hHe, ← hlo]
  refine lv_aload_n hx hb dX3_put_0 rfl (lv_at hl 0 rfl) ?_
  refine lv_iload_n hx hb dX3_put_1 rfl (lv_at hl 1 rfl) ?_
  refine lv_iload_n hx hb dX3_put_2 rfl (lv_at hl 2 rfl) ?_
  obtain ⟨hb1, hb2, hf⟩ := hf
  refine q_backI0 X hH (q_runV [.int a1, .int a2] [] X hH hl (c_X3_hasPlace l D cy G X.2.2.2.1 S a0 a1 a2 _ _ hf) mf_X3_hasPlace mv_X3_hasPlace tw_461 ⟨Nat.le_of_ble_eq_true rfl, Nat.le_of_ble_eq_true rfl⟩ hb1 hb2 (T := TX3) (N := 6) rfl rfl (Nat.le_of_ble_eq_true rfl) dX3_put_3 ⟨Nat.le_of_ble_eq_true rfl, Nat.le_of_ble_eq_true rfl⟩) (fun v2 S1 hf H locs hH => ?_)
  refine lv_if_eq (tgt := 43) hx hb dX3_put_6 (by decide) (fun c3 => ?_) (fun c3 => ?_)
  · have hf := (if_pos c3).mp hf
    exact q_retV X hH hr hlk hf (Nat.zero_le _) (Nat.zero_le _) dX3_put_43
  · have hf := (if_neg c3).mp hf
    refine lv_aload_n hx hb dX3_put_9 rfl (lv_at hl 0 rfl) ?_
    refine q_getR (T := TX3) (N := 6) X hH hf iw_X3 rfl (by decide) tw_189 (fun _ h => h) dX3_put_10 (fun v4 hf => ?_)
    refine lv_iload_n hx hb dX3_put_13 rfl (lv_at hl 1 rfl) ?_
    refine lv_bipush (v := 9) hx hb dX3_put_14 (by decide) ?_
    refine lv_imul hx hb dX3_put_16 ?_
    refine lv_iload_n hx hb dX3_put_17 rfl (lv_at hl 2 rfl) ?_
    refine lv_iadd hx hb dX3_put_18 ?_
    refine lv_aload_n hx hb dX3_put_19 rfl (lv_at hl 0 rfl) ?_
    refine q_getR (T := TX3) (N := 6) X hH hf iw_X3 rfl (by decide) tw_192 (fun _ h => h) dX3_put_20 (fun v5 hf => ?_)
    refine lv_iload_n hx hb dX3_put_23 rfl (lv_at hl 3 rfl) ?_
    refine q_iald X hH hf dX3_put_24 (fun v6 hf => ?_)
    refine q_iast X hH hf dX3_put_25 (fun S7 hf H locs hH => ?_)
    refine lv_aload_n hx hb dX3_put_26 rfl (lv_at hl 0 rfl) ?_
    refine q_getR (T := TX3) (N := 6) X hH hf iw_X3 rfl (by decide) tw_190 (fun _ h => h) dX3_put_27 (fun v8 hf => ?_)
    refine lv_iload_n hx hb dX3_put_30 rfl (lv_at hl 1 rfl) ?_
    refine lv_bipush (v := 9) hx hb dX3_put_31 (by decide) ?_
    refine lv_imul hx hb dX3_put_33 ?_
    refine lv_iload_n hx hb dX3_put_34 rfl (lv_at hl 2 rfl) ?_
    refine lv_iadd hx hb dX3_put_35 ?_
    refine lv_aload_n hx hb dX3_put_36 rfl (lv_at hl 0 rfl) ?_
    refine q_getR (T := TX3) (N := 6) X hH hf iw_X3 rfl (by decide) tw_193 (fun _ h => h) dX3_put_37 (fun v9 hf => ?_)
    refine lv_iload_n hx hb dX3_put_40 rfl (lv_at hl 3 rfl) ?_
    refine q_iald X hH hf dX3_put_41 (fun v10 hf => ?_)
    refine q_iast X hH hf dX3_put_42 (fun S11 hf H locs hH => ?_)
    exact q_retV X hH hr hlk hf (Nat.zero_le _) (Nat.zero_le _) dX3_put_43
-- X3_mergeLast
def f_X3_mergeLast_L80 (post : PS → Prop) : Nat → PS → Nat → Int32 → Int32 → Int32 → Prop
  | 0, _, _, _, _, _ => False
  | n + 1, S, l0, l4, l5, l6 =>
  if 9 ≤ l6 then
    post S
  else
    gR S l0 7 2 fun v2 => (
    aI S v2 0 ((l4 * 9) + l6) fun v3 => (
    gR S l0 7 2 fun v4 => (
    aI S v4 0 ((l5 * 9) + l6) fun v5 => (
    gR S l0 7 2 fun v6 => (
    sI S v6 0 ((l4 * 9) + l6) (v3 + v5) fun S7 => (
    gR S7 l0 7 2 fun v8 => (
    sI S7 v8 0 ((l6 * 9) + l4) (v3 + v5) fun S9 => (
    (f_X3_mergeLast_L80 post n) S9 l0 l4 l5 (l6 + 1)))))))))
def f_X3_mergeLast (S : PS) (a0 : Nat) (a1 : Int32) (post : PS → Prop) : Prop :=
  isO S a0 7 (
  f_X3_groupsIn S a0 a1 fun v2 S1 => (
  isO S1 a0 7 (
  f_X3_groupAt S1 a0 a1 (v2 - 1) fun v4 S3 => (
  f_X7_lowestOf S3 v4 fun v6 S5 => (
  isO S5 a0 7 (
  f_X3_groupsIn S5 a0 a1 fun v8 S7 => (
  isO S7 a0 7 (
  f_X3_groupAt S7 a0 a1 (v8 - 2) fun v10 S9 => (
  f_X7_lowestOf S9 v10 fun v12 S11 => (
  if 0 ≤ (if v12 < v6 then v12 else v6) then
    gR S11 a0 7 3 fun v14 => (
    aI S11 v14 0 (if v12 < v6 then v12 else v6) fun v15 => (
    gR S11 a0 7 3 fun v16 => (
    aI S11 v16 0 (if v6 < v12 then v12 else v6) fun v17 => (
    sI S11 v14 0 (if v12 < v6 then v12 else v6) (v15 ||| v17) fun S18 => (
    gR S18 a0 7 3 fun v19 => (
    sI S18 v19 0 (if v6 < v12 then v12 else v6) 0 fun S20 => (
    f_X3_mergeLast_L80 post 4096 S20 a0 (if v12 < v6 then v12 else v6) (if v6 < v12 then v12 else v6) 0)))))))
  else
    post S11))))))))))
abbrev rm_X3_mergeLast : Room := { frames := 2, cells := 0, slots := 0, locals := 44 }
set_option maxHeartbeats 4000000 in
set_option maxRecDepth 100000 in
theorem c_X3_mergeLast (l : Launch) (D : va_G) (cy : Nat → ClassId) (G : p_GT) (hG : p_ok G) (S : PS) (a0 : Nat) (a1 : Int32) (post : PS → Prop) (sz : Nat) (hf : f_X3_mergeLast S a0 a1 post) : p_Mv l D cy G S sz yX3_mergeLast (Cond.code yX3_mergeLast cX3_mergeLast 8 none :: wG) rm_X3_mergeLast [.ref a0, .int a1] 0 0 post := by
  refine q_start hG (Qc := fun A => va_Qv post (p_Post D cy A) A) mf_X3_mergeLast (Nat.le_of_ble_eq_true rfl) (own := RX3) rfl ?_
  intro p e s m below meth c A X hr hlk hnm ls hl hH
  have hx := X.1.1
  have hb := X.1.2.1
  replace hl : lv_has ls 8 [(0, .ref a0), (1, .int a1)] := hl
  obtain ⟨H, hHe⟩ : ∃ H, H = s.heap := ⟨_, rfl⟩
  obtain ⟨locs, hlo⟩ : ∃ locs : List Loc, locs = [] := ⟨_, rfl⟩
  rw [← hHe, ← hlo] at hH
  show W p l e rm_X3_mergeLast s m [.ref a0, .int a1].toArray below meth c s.heap [] 0 0 _ _
  rw [← hHe, ← hlo]
  have hL80 : ∀ (n80 : Nat) (S : PS) (l0 : Nat) (l4 : Int32) (l5 : Int32) (l6 : Int32), f_X3_mergeLast_L80 post n80 S l0 l4 l5 l6 → ∀ (H : Heap) (locs : List Loc) (ls : Array Slot), p_H D cy S A s H locs → lv_has ls 8 [(0, .ref l0), (4, .int l4), (5, .int l5), (6, .int l6)] → W p l e rm_X3_mergeLast s m [.ref a0, .int a1].toArray below meth c H locs 0 0 (MQ below (va_Qv post (p_Post D cy A) A) [.ref a0, .int a1].toArray s 0 0 A) (F0 m 80 ls []) := by
    intro n80
    induction n80 with
    | zero => intro S l0 l4 l5 l6 hf; exact hf.elim
    | succ n80 ih80 =>
      intro S l0 l4 l5 l6 hf H locs ls hH hl
      refine lv_iload hx hb dX3_mergeLast_80 (lv_at hl 3 rfl) ?_
      refine lv_bipush (v := 9) hx hb dX3_mergeLast_82 (by decide) ?_
      refine lv_icmp_ge (tgt := 152) hx hb dX3_mergeLast_84 (by decide) (fun c1 => ?_) (fun c1 => ?_)
      · have hf := (if_pos c1).mp hf
        exact q_retV X hH hr hlk hf (Nat.zero_le _) (Nat.zero_le _) dX3_mergeLast_152
      · have hf := (if_neg c1).mp hf
        refine lv_aload_n hx hb dX3_mergeLast_87 rfl (lv_at hl 0 rfl) ?_
        refine q_getR (T := TX3) (N := 6) X hH hf iw_X3 rfl (by decide) tw_191 (fun _ h => h) dX3_mergeLast_88 (fun v2 hf => ?_)
        refine lv_iload hx hb dX3_mergeLast_91 (lv_at hl 1 rfl) ?_
        refine lv_bipush (v := 9) hx hb dX3_mergeLast_93 (by decide) ?_
        refine lv_imul hx hb dX3_mergeLast_95 ?_
        refine lv_iload hx hb dX3_mergeLast_96 (lv_at hl 3 rfl) ?_
        refine lv_iadd hx hb dX3_mergeLast_98 ?_
        refine q_iald X hH hf dX3_mergeLast_99 (fun v3 hf => ?_)
        refine lv_aload_n hx hb dX3_mergeLast_100 rfl (lv_at hl 0 rfl) ?_
        refine q_getR (T := TX3) (N := 6) X hH hf iw_X3 rfl (by decide) tw_191 (fun _ h => h) dX3_mergeLast_101 (fun v4 hf => ?_)
        refine lv_iload hx hb dX3_mergeLast_104 (lv_at hl 2 rfl) ?_
        refine lv_bipush (v := 9) hx hb dX3_mergeLast_106 (by decide) ?_
        refine lv_imul hx hb dX3_mergeLast_108 ?_
        refine lv_iload hx hb dX3_mergeLast_109 (lv_at hl 3 rfl) ?_
        refine lv_iadd hx hb dX3_mergeLast_111 ?_
        refine q_iald X hH hf dX3_mergeLast_112 (fun v5 hf => ?_)
        refine lv_iadd hx hb dX3_mergeLast_113 ?_
        refine lv_istore (lv' := [(7, .int (v3 + v5)), (0, .ref l0), (4, .int l4), (5, .int l5), (6, .int l6)]) hx hb dX3_mergeLast_114 hl (by decide) rfl (fun ls hl => ?_)
        refine lv_aload_n hx hb dX3_mergeLast_116 rfl (lv_at hl 1 rfl) ?_
        refine q_getR (T := TX3) (N := 6) X hH hf iw_X3 rfl (by decide) tw_191 (fun _ h => h) dX3_mergeLast_117 (fun v6 hf => ?_)
        refine lv_iload hx hb dX3_mergeLast_120 (lv_at hl 2 rfl) ?_
        refine lv_bipush (v := 9) hx hb dX3_mergeLast_122 (by decide) ?_
        refine lv_imul hx hb dX3_mergeLast_124 ?_
        refine lv_iload hx hb dX3_mergeLast_125 (lv_at hl 4 rfl) ?_
        refine lv_iadd hx hb dX3_mergeLast_127 ?_
        refine lv_iload hx hb dX3_mergeLast_128 (lv_at hl 0 rfl) ?_
        refine q_iast X hH hf dX3_mergeLast_130 (fun S7 hf H locs hH => ?_)
        refine lv_aload_n hx hb dX3_mergeLast_131 rfl (lv_at hl 1 rfl) ?_
        refine q_getR (T := TX3) (N := 6) X hH hf iw_X3 rfl (by decide) tw_191 (fun _ h => h) dX3_mergeLast_132 (fun v8 hf => ?_)
        refine lv_iload hx hb dX3_mergeLast_135 (lv_at hl 4 rfl) ?_
        refine lv_bipush (v := 9) hx hb dX3_mergeLast_137 (by decide) ?_
        refine lv_imul hx hb dX3_mergeLast_139 ?_
        refine lv_iload hx hb dX3_mergeLast_140 (lv_at hl 2 rfl) ?_
        refine lv_iadd hx hb dX3_mergeLast_142 ?_
        refine lv_iload hx hb dX3_mergeLast_143 (lv_at hl 0 rfl) ?_
        refine q_iast X hH hf dX3_mergeLast_145 (fun S9 hf H locs hH => ?_)
        refine lv_iinc (v := l6 + 1) (lv' := [(6, .int (l6 + 1)), (7, .int (v3 + v5)), (0, .ref l0), (4, .int l4), (5, .int l5)]) hx hb dX3_mergeLast_146 hl (k := 4) rfl rfl (by decide) rfl (fun ls hl => ?_)
        refine lv_goto (tgt := 80) hx hb dX3_mergeLast_149 (by decide) ?_
        exact ih80 S9 l0 l4 l5 (l6 + 1) hf H locs ls hH (lv_sub hl [2, 3, 4, 0] rfl)
  refine lv_aload_n hx hb dX3_mergeLast_0 rfl (lv_at hl 0 rfl) ?_
  refine lv_iload_n hx hb dX3_mergeLast_1 rfl (lv_at hl 1 rfl) ?_
  refine lv_aload_n hx hb dX3_mergeLast_2 rfl (lv_at hl 0 rfl) ?_
  refine lv_iload_n hx hb dX3_mergeLast_3 rfl (lv_at hl 1 rfl) ?_
  obtain ⟨hb1, hb2, hf⟩ := hf
  refine q_backI0 X hH (q_runV [.int a1] [.int a1, .ref a0] X hH hl (c_X3_groupsIn l D cy G X.2.2.2.1 S a0 a1 _ _ hf) mf_X3_groupsIn mv_X3_groupsIn tw_448 ⟨Nat.le_of_ble_eq_true rfl, Nat.le_of_ble_eq_true rfl⟩ hb1 hb2 (T := TX3) (N := 6) rfl rfl (Nat.le_of_ble_eq_true rfl) dX3_mergeLast_4 ⟨Nat.le_of_ble_eq_true rfl, Nat.le_of_ble_eq_true rfl⟩) (fun v2 S1 hf H locs hH => ?_)
  refine lv_iconst (v := 1) hx hb dX3_mergeLast_7 (by decide) ?_
  refine lv_isub hx hb dX3_mergeLast_8 ?_
  obtain ⟨hb1, hb2, hf⟩ := hf
  refine q_backI0 X hH (q_runV [.int a1, .int (v2 - 1)] [] X hH hl (c_X3_groupAt l D cy G X.2.2.2.1 S1 a0 a1 (v2 - 1) _ _ hf) mf_X3_groupAt mv_X3_groupAt tw_469 ⟨Nat.le_of_ble_eq_true rfl, Nat.le_of_ble_eq_true rfl⟩ hb1 hb2 (T := TX3) (N := 6) rfl rfl (Nat.le_of_ble_eq_true rfl) dX3_mergeLast_9 ⟨Nat.le_of_ble_eq_true rfl, Nat.le_of_ble_eq_true rfl⟩) (fun v4 S3 hf H locs hH => ?_)
  refine q_backI0 X hH (q_runSN [.int v4] [] X hH hl (c_X7_lowestOf l D cy G X.2.2.2.1 S3 v4 _ _ hf) mf_X7_lowestOf tw_420 (List.mem_of_getElem? (i := 19) rfl) ⟨Nat.le_of_ble_eq_true rfl, Nat.le_of_ble_eq_true rfl⟩ rfl (Nat.le_of_ble_eq_true rfl) dX3_mergeLast_12 ⟨Nat.le_of_ble_eq_true rfl, Nat.le_of_ble_eq_true rfl⟩) (fun v6 S5 hf H locs hH => ?_)
  refine lv_istore_n (lv' := [(2, .int v6), (0, .ref a0), (1, .int a1)]) hx hb dX3_mergeLast_15 rfl hl (by decide) rfl (fun ls hl => ?_)
  refine lv_aload_n hx hb dX3_mergeLast_16 rfl (lv_at hl 1 rfl) ?_
  refine lv_iload_n hx hb dX3_mergeLast_17 rfl (lv_at hl 2 rfl) ?_
  refine lv_aload_n hx hb dX3_mergeLast_18 rfl (lv_at hl 1 rfl) ?_
  refine lv_iload_n hx hb dX3_mergeLast_19 rfl (lv_at hl 2 rfl) ?_
  obtain ⟨hb1, hb2, hf⟩ := hf
  refine q_backI0 X hH (q_runV [.int a1] [.int a1, .ref a0] X hH hl (c_X3_groupsIn l D cy G X.2.2.2.1 S5 a0 a1 _ _ hf) mf_X3_groupsIn mv_X3_groupsIn tw_448 ⟨Nat.le_of_ble_eq_true rfl, Nat.le_of_ble_eq_true rfl⟩ hb1 hb2 (T := TX3) (N := 6) rfl rfl (Nat.le_of_ble_eq_true rfl) dX3_mergeLast_20 ⟨Nat.le_of_ble_eq_true rfl, Nat.le_of_ble_eq_true rfl⟩) (fun v8 S7 hf H locs hH => ?_)
  refine lv_iconst (v := 2) hx hb dX3_mergeLast_23 (by decide) ?_
  refine lv_isub hx hb dX3_mergeLast_24 ?_
  obtain ⟨hb1, hb2, hf⟩ := hf
  refine q_backI0 X hH (q_runV [.int a1, .int (v8 - 2)] [] X hH hl (c_X3_groupAt l D cy G X.2.2.2.1 S7 a0 a1 (v8 - 2) _ _ hf) mf_X3_groupAt mv_X3_groupAt tw_469 ⟨Nat.le_of_ble_eq_true rfl, Nat.le_of_ble_eq_true rfl⟩ hb1 hb2 (T := TX3) (N := 6) rfl rfl (Nat.le_of_ble_eq_true rfl) dX3_mergeLast_25 ⟨Nat.le_of_ble_eq_true rfl, Nat.le_of_ble_eq_true rfl⟩) (fun v10 S9 hf H locs hH => ?_)
  refine q_backI0 X hH (q_runSN [.int v10] [] X hH hl (c_X7_lowestOf l D cy G X.2.2.2.1 S9 v10 _ _ hf) mf_X7_lowestOf tw_420 (List.mem_of_getElem? (i := 19) rfl) ⟨Nat.le_of_ble_eq_true rfl, Nat.le_of_ble_eq_true rfl⟩ rfl (Nat.le_of_ble_eq_true rfl) dX3_mergeLast_28 ⟨Nat.le_of_ble_eq_true rfl, Nat.le_of_ble_eq_true rfl⟩) (fun v12 S11 hf H locs hH => ?_)
  refine lv_istore_n (lv' := [(3, .int v12), (2, .int v6), (0, .ref a0), (1, .int a1)]) hx hb dX3_mergeLast_31 rfl hl (by decide) rfl (fun ls hl => ?_)
  refine lv_iload_n hx hb dX3_mergeLast_32 rfl (lv_at hl 1 rfl) ?_
  refine lv_iload_n hx hb dX3_mergeLast_33 rfl (lv_at hl 0 rfl) ?_
  refine q_mmin X hl tw_474 tw_475 tw_110 tw_476 ⟨Nat.le_of_ble_eq_true rfl, Nat.le_of_ble_eq_true rfl⟩ (Nat.le_of_ble_eq_true rfl) (Nat.zero_le _) (Nat.zero_le _) dX3_mergeLast_34 ?_
  refine lv_istore (lv' := [(4, .int ((if v12 < v6 then v12 else v6))), (3, .int v12), (2, .int v6), (0, .ref a0), (1, .int a1)]) hx hb dX3_mergeLast_37 hl (by decide) rfl (fun ls hl => ?_)
  refine lv_iload_n hx hb dX3_mergeLast_39 rfl (lv_at hl 2 rfl) ?_
  refine lv_iload_n hx hb dX3_mergeLast_40 rfl (lv_at hl 1 rfl) ?_
  refine q_mmax X hl tw_477 tw_478 tw_110 tw_479 ⟨Nat.le_of_ble_eq_true rfl, Nat.le_of_ble_eq_true rfl⟩ (Nat.le_of_ble_eq_true rfl) (Nat.zero_le _) (Nat.zero_le _) dX3_mergeLast_41 ?_
  refine lv_istore (lv' := [(5, .int ((if v6 < v12 then v12 else v6))), (4, .int ((if v12 < v6 then v12 else v6))), (3, .int v12), (2, .int v6), (0, .ref a0), (1, .int a1)]) hx hb dX3_mergeLast_44 hl (by decide) rfl (fun ls hl => ?_)
  refine lv_iload hx hb dX3_mergeLast_46 (lv_at hl 1 rfl) ?_
  refine lv_if_ge (tgt := 52) hx hb dX3_mergeLast_48 (by decide) (fun c13 => ?_) (fun c13 => ?_)
  · have hf := (if_pos c13).mp hf
    refine lv_aload_n hx hb dX3_mergeLast_52 rfl (lv_at hl 4 rfl) ?_
    refine q_getR (T := TX3) (N := 6) X hH hf iw_X3 rfl (by decide) tw_192 (fun _ h => h) dX3_mergeLast_53 (fun v14 hf => ?_)
    refine lv_iload hx hb dX3_mergeLast_56 (lv_at hl 1 rfl) ?_
    refine lv_dup2_11 hx hb dX3_mergeLast_58 rfl rfl ?_
    refine q_iald X hH hf dX3_mergeLast_59 (fun v15 hf => ?_)
    refine lv_aload_n hx hb dX3_mergeLast_60 rfl (lv_at hl 4 rfl) ?_
    refine q_getR (T := TX3) (N := 6) X hH hf iw_X3 rfl (by decide) tw_192 (fun _ h => h) dX3_mergeLast_61 (fun v16 hf => ?_)
    refine lv_iload hx hb dX3_mergeLast_64 (lv_at hl 0 rfl) ?_
    refine q_iald X hH hf dX3_mergeLast_66 (fun v17 hf => ?_)
    refine lv_ior hx hb dX3_mergeLast_67 ?_
    refine q_iast X hH hf dX3_mergeLast_68 (fun S18 hf H locs hH => ?_)
    refine lv_aload_n hx hb dX3_mergeLast_69 rfl (lv_at hl 4 rfl) ?_
    refine q_getR (T := TX3) (N := 6) X hH hf iw_X3 rfl (by decide) tw_192 (fun _ h => h) dX3_mergeLast_70 (fun v19 hf => ?_)
    refine lv_iload hx hb dX3_mergeLast_73 (lv_at hl 0 rfl) ?_
    refine lv_iconst (v := 0) hx hb dX3_mergeLast_75 (by decide) ?_
    refine q_iast X hH hf dX3_mergeLast_76 (fun S20 hf H locs hH => ?_)
    refine lv_iconst (v := 0) hx hb dX3_mergeLast_77 (by decide) ?_
    refine lv_istore (lv' := [(6, .int 0), (5, .int ((if v6 < v12 then v12 else v6))), (4, .int ((if v12 < v6 then v12 else v6))), (3, .int v12), (2, .int v6), (0, .ref a0), (1, .int a1)]) hx hb dX3_mergeLast_78 hl (by decide) rfl (fun ls hl => ?_)
    exact hL80 4096 S20 a0 (if v12 < v6 then v12 else v6) (if v6 < v12 then v12 else v6) 0 hf H locs ls hH (lv_sub hl [5, 2, 1, 0] rfl)
  · have hf := (if_neg c13).mp hf
    exact q_retV X hH hr hlk hf (Nat.zero_le _) (Nat.zero_le _) dX3_mergeLast_51
-- X5_init
def f_X5_init (S : PS) (a0 : Nat) (bc bs : Nat) (post : PS → Prop) : Prop :=
  nO S 1 [.null, .int 0, .int 0, .int 0] 4 bc bs fun q1 S2 bc3 bs4 => (
  ∃ mc6 ms6 : Nat, mc6 ≤ bc3 ∧ ms6 ≤ bs4 ∧ (f_J4_init_da8c8 S2 q1 mc6 ms6 fun S5 => (
  pV S5 a0 9 0 (.ref q1) fun S8 => (
  nA S8 0 15 (bc3 - mc6) (bs4 - ms6) fun q9 S10 bc11 bs12 => (
  pV S10 a0 9 1 (.ref q9) fun S13 => (
  nA S13 0 45 bc11 bs12 fun q14 S15 bc16 bs17 => (
  pV S15 a0 9 2 (.ref q14) fun S18 => (
  pV S18 a0 9 3 (.int 0) fun S19 => (
  pV S19 a0 9 4 (.int 0) fun S20 => (
  pV S20 a0 9 5 (.int 0) fun S21 => (
  pV S21 a0 9 6 (.int ((-1))) fun S22 => (
  post S22))))))))))))
abbrev rm_X5_init (mc ms : Nat) : Room := { frames := 3, cells := mc, slots := ms, locals := 61 }
set_option maxHeartbeats 4000000 in
set_option maxRecDepth 100000 in
theorem c_X5_init (l : Launch) (D : va_G) (cy : Nat → ClassId) (G : p_GT) (hG : p_ok G) (hGC : ∀ (A : Nat → Prop) (U : State) (H : Heap), G A U H → gC A U H) (S : PS) (a0 : Nat) (mc ms : Nat) (post : PS → Prop) (sz : Nat) (hf : f_X5_init S a0 mc ms post) : p_Mv l D cy G S sz yX5_init (Cond.code yX5_init cX5_init 1 none :: wG) (rm_X5_init mc ms) [.ref a0] mc ms post := by
  refine q_start hG (Qc := fun A => va_Qv post (p_Post D cy A) A) mf_X5_init (Nat.le_of_ble_eq_true rfl) (own := RX5) rfl ?_
  intro p e s m below meth c A X hr hlk hnm ls hl hH
  have hx := X.1.1
  have hb := X.1.2.1
  replace hl : lv_has ls 1 [(0, .ref a0)] := hl
  have main : ∀ (H : Heap) (locs : List Loc) (ls : Array Slot) (cells slots bc bs : Nat), f_X5_init S a0 bc bs post → p_H D cy S A s H locs → lv_has ls 1 [(0, .ref a0)] → cells + bc ≤ mc ∧ slots + bs ≤ ms → W p l e (rm_X5_init mc ms) s m [.ref a0].toArray below meth c H locs cells slots (MQ below (va_Qv post (p_Post D cy A) A) [.ref a0].toArray s mc ms A) (F0 m 0 ls []) := by
    intro H locs ls cells slots bc bs hf hH hl hB
    refine lv_aload_n hx hb dX5_init_0 rfl (lv_at hl 0 rfl) ?_
    refine q_objInit X hl tw_242 tw_130 tw_o ⟨Nat.le_of_ble_eq_true rfl, Nat.le_of_ble_eq_true rfl⟩ (Nat.le_of_ble_eq_true rfl) dX5_init_1 ?_
    refine lv_aload_n hx hb dX5_init_4 rfl (lv_at hl 0 rfl) ?_
    refine q_new (T := TJ4) (N := 4) X hH hB hf iw_J4 tyJ4 tyJ4_ok rfl tw_243 tw_244 tw_100 (fun j hj => by rcases (show j = 0 ∨ j = 1 ∨ j = 2 ∨ j = 3 by omega) with rfl | rfl | rfl | rfl <;> rfl) dX5_init_5 (fun q1 S2 bc3 bs4 hf H locs cells slots hH hB => ?_)
    refine lv_dup hx hb dX5_init_8 rfl ?_
    obtain ⟨mc6, ms6, hm1, hs1, hf⟩ := hf
    refine q_backVB X hH hB hm1 hs1 (q_runI [] [.ref q1, .ref a0] X hH hl (c_J4_init_da8c8 l D cy G X.2.2.2.1 hGC S2 q1 mc6 ms6 _ _ hf) mf_J4_init_da8c8 tw_246 tw_245 ⟨Nat.le_of_ble_eq_true rfl, Nat.le_of_ble_eq_true rfl⟩ rfl (Nat.le_of_ble_eq_true rfl) dX5_init_9 ⟨Nat.le_trans (Nat.add_le_add_left hm1 _) hB.1, Nat.le_trans (Nat.add_le_add_left hs1 _) hB.2⟩) (fun S5 hf H locs cells slots hH hB => ?_)
    refine q_putF (T := TX5) (N := 7) (ty0 := tyX5) (ty := tyX5 0) X hH hf iw_X5 tyX5_ok nmX5 rfl (by decide) tw_276 (fun _ h => h) rfl hnm rfl (tyX5_ok 0 (by decide)) rfl rfl dX5_init_12 (fun S8 hf H locs hH => ?_)
    refine lv_aload_n hx hb dX5_init_15 rfl (lv_at hl 0 rfl) ?_
    refine lv_bipush (v := 15) hx hb dX5_init_16 (by decide) ?_
    refine q_newa (t := 0) (atype := .int) (ty := .int) X hH hB hf tw_164 rfl rfl (fun C h => by cases h) (fun N cA => rfl) (by decide) dX5_init_18 (fun q9 S10 bc11 bs12 hf H locs cells slots hH hB => ?_)
    refine q_putF (T := TX5) (N := 7) (ty0 := tyX5) (ty := tyX5 1) X hH hf iw_X5 tyX5_ok nmX5 rfl (by decide) tw_277 (fun _ h => h) rfl hnm rfl (tyX5_ok 1 (by decide)) rfl rfl dX5_init_20 (fun S13 hf H locs hH => ?_)
    refine lv_aload_n hx hb dX5_init_23 rfl (lv_at hl 0 rfl) ?_
    refine lv_bipush (v := 45) hx hb dX5_init_24 (by decide) ?_
    refine q_newa (t := 0) (atype := .int) (ty := .int) X hH hB hf tw_164 rfl rfl (fun C h => by cases h) (fun N cA => rfl) (by decide) dX5_init_26 (fun q14 S15 bc16 bs17 hf H locs cells slots hH hB => ?_)
    refine q_putF (T := TX5) (N := 7) (ty0 := tyX5) (ty := tyX5 2) X hH hf iw_X5 tyX5_ok nmX5 rfl (by decide) tw_278 (fun _ h => h) rfl hnm rfl (tyX5_ok 2 (by decide)) rfl rfl dX5_init_28 (fun S18 hf H locs hH => ?_)
    refine lv_aload_n hx hb dX5_init_31 rfl (lv_at hl 0 rfl) ?_
    refine lv_iconst (v := 0) hx hb dX5_init_32 (by decide) ?_
    refine q_putV (T := TX5) (N := 7) (ty0 := tyX5) (ty := tyX5 3) X hH hf iw_X5 tyX5_ok nmX5 rfl (by decide) tw_279 (fun _ h => h) rfl (tyX5_ok 3 (by decide)) rfl rfl dX5_init_33 (fun S19 hf H locs hH => ?_)
    refine lv_aload_n hx hb dX5_init_36 rfl (lv_at hl 0 rfl) ?_
    refine lv_iconst (v := 0) hx hb dX5_init_37 (by decide) ?_
    refine q_putV (T := TX5) (N := 7) (ty0 := tyX5) (ty := tyX5 4) X hH hf iw_X5 tyX5_ok nmX5 rfl (by decide) tw_280 (fun _ h => h) rfl (tyX5_ok 4 (by decide)) rfl rfl dX5_init_38 (fun S20 hf H locs hH => ?_)
    refine lv_aload_n hx hb dX5_init_41 rfl (lv_at hl 0 rfl) ?_
    refine lv_iconst (v := 0) hx hb dX5_init_42 (by decide) ?_
    refine q_putV (T := TX5) (N := 7) (ty0 := tyX5) (ty := tyX5 5) X hH hf iw_X5 tyX5_ok nmX5 rfl (by decide) tw_281 (fun _ h => h) rfl (tyX5_ok 5 (by decide)) rfl rfl dX5_init_43 (fun S21 hf H locs hH => ?_)
    refine lv_aload_n hx hb dX5_init_46 rfl (lv_at hl 0 rfl) ?_
    refine lv_iconst (v := (-1)) hx hb dX5_init_47 (by decide) ?_
    refine q_putV (T := TX5) (N := 7) (ty0 := tyX5) (ty := tyX5 6) X hH hf iw_X5 tyX5_ok nmX5 rfl (by decide) tw_282 (fun _ h => h) rfl (tyX5_ok 6 (by decide)) rfl rfl dX5_init_48 (fun S22 hf H locs hH => ?_)
    exact q_retV X hH hr hlk hf (Nat.le_trans (Nat.le_add_right _ _) hB.1) (Nat.le_trans (Nat.le_add_right _ _) hB.2) dX5_init_51
  exact main s.heap [] ls 0 0 mc ms hf hH hl ⟨by omega, by omega⟩
-- X5_length
def f_X5_length (S : PS) (a0 : Nat) (post : Int32 → PS → Prop) : Prop :=
  gR S a0 9 0 fun v1 => (
  isO S v1 1 (
  f_J4_length_8abf5 S v1 fun v3 S2 => (
  post v3 S2)))
abbrev rm_X5_length : Room := { frames := 2, cells := 0, slots := 0, locals := 40 }
set_option maxHeartbeats 4000000 in
set_option maxRecDepth 100000 in
theorem c_X5_length (l : Launch) (D : va_G) (cy : Nat → ClassId) (G : p_GT) (hG : p_ok G) (S : PS) (a0 : Nat) (post : Int32 → PS → Prop) (sz : Nat) (hf : f_X5_length S a0 post) : p_Mi l D cy G S sz yX5_length (Cond.code yX5_length cX5_length 1 (some .int) :: wG) rm_X5_length [.ref a0] 0 0 post := by
  refine q_start hG (Qc := fun A => va_Qi post (p_Post D cy A) A) mf_X5_length (Nat.le_of_ble_eq_true rfl) (own := RX5) rfl ?_
  intro p e s m below meth c A X hr hlk hnm ls hl hH
  have hx := X.1.1
  have hb := X.1.2.1
  replace hl : lv_has ls 1 [(0, .ref a0)] := hl
  obtain ⟨H, hHe⟩ : ∃ H, H = s.heap := ⟨_, rfl⟩
  obtain ⟨locs, hlo⟩ : ∃ locs : List Loc, locs = [] := ⟨_, rfl⟩
  rw [← hHe, ← hlo] at hH
  show W p l e rm_X5_length s m [.ref a0].toArray below meth c s.heap [] 0 0 _ _
  rw [← hHe, ← hlo]
  refine lv_aload_n hx hb dX5_length_0 rfl (lv_at hl 0 rfl) ?_
  refine q_getR (T := TX5) (N := 7) X hH hf iw_X5 rfl (by decide) tw_276 (fun _ h => h) dX5_length_1 (fun v1 hf => ?_)
  obtain ⟨hb1, hb2, hf⟩ := hf
  refine q_backI0 X hH (q_runV [] [] X hH hl (c_J4_length_8abf5 l D cy G X.2.2.2.1 S v1 _ _ hf) mf_J4_length_8abf5 mv_J4_length_8abf5 tw_1373 ⟨Nat.le_of_ble_eq_true rfl, Nat.le_of_ble_eq_true rfl⟩ hb1 hb2 (T := TJ4) (N := 4) rfl rfl (Nat.le_of_ble_eq_true rfl) dX5_length_4 ⟨Nat.le_of_ble_eq_true rfl, Nat.le_of_ble_eq_true rfl⟩) (fun v3 S2 hf H locs hH => ?_)
  exact q_retI X hH hr hlk hf (Nat.zero_le _) (Nat.zero_le _) dX5_length_7
-- X6_hasAll
def f_X6_hasAll (S : PS) (a0 : Nat) (a1 : Int32) (post : Int32 → PS → Prop) : Prop :=
  if a1 < 0 then
    nZ .boolean 0 (post 0 S)
  else
    isO S a0 10 (
    f_X6_everyone S a0 fun v3 S2 => (
    if v3 < a1 then
      nZ .boolean 0 (post 0 S2)
    else
      nZ .boolean 1 (post 1 S2)))
abbrev rm_X6_hasAll : Room := { frames := 1, cells := 0, slots := 0, locals := 20 }
set_option maxHeartbeats 4000000 in
set_option maxRecDepth 100000 in
theorem c_X6_hasAll (l : Launch) (D : va_G) (cy : Nat → ClassId) (G : p_GT) (hG : p_ok G) (S : PS) (a0 : Nat) (a1 : Int32) (post : Int32 → PS → Prop) (sz : Nat) (hf : f_X6_hasAll S a0 a1 post) : p_Mi l D cy G S sz yX6_hasAll (Cond.code yX6_hasAll cX6_hasAll 2 (some .boolean) :: wG) rm_X6_hasAll [.ref a0, .int a1] 0 0 post := by
  refine q_start hG (Qc := fun A => va_Qi post (p_Post D cy A) A) mf_X6_hasAll (Nat.le_of_ble_eq_true rfl) (own := RX6) rfl ?_
  intro p e s m below meth c A X hr hlk hnm ls hl hH
  have hx := X.1.1
  have hb := X.1.2.1
  replace hl : lv_has ls 2 [(0, .ref a0), (1, .int a1)] := hl
  obtain ⟨H, hHe⟩ : ∃ H, H = s.heap := ⟨_, rfl⟩
  obtain ⟨locs, hlo⟩ : ∃ locs : List Loc, locs = [] := ⟨_, rfl⟩
  rw [← hHe, ← hlo] at hH
  show W p l e rm_X6_hasAll s m [.ref a0, .int a1].toArray below meth c s.heap [] 0 0 _ _
  rw [← hHe, ← hlo]
  refine lv_iload_n hx hb dX6_hasAll_0 rfl (lv_at hl 1 rfl) ?_
  refine lv_if_lt (tgt := 16) hx hb dX6_hasAll_1 (by decide) (fun c1 => ?_) (fun c1 => ?_)
  · have hf := (if_pos c1).mp hf
    refine lv_iconst (v := 0) hx hb dX6_hasAll_16 (by decide) ?_
    exact q_retZ X hH hr hlk hf (Nat.zero_le _) (Nat.zero_le _) dX6_hasAll_17
  · have hf := (if_neg c1).mp hf
    refine lv_iload_n hx hb dX6_hasAll_4 rfl (lv_at hl 1 rfl) ?_
    refine lv_aload_n hx hb dX6_hasAll_5 rfl (lv_at hl 0 rfl) ?_
    obtain ⟨hb1, hb2, hf⟩ := hf
    refine q_backI0 X hH (q_runV [] [.int a1] X hH hl (c_X6_everyone l D cy G X.2.2.2.1 S a0 _ _ hf) mf_X6_everyone mv_X6_everyone tw_391 ⟨Nat.le_of_ble_eq_true rfl, Nat.le_of_ble_eq_true rfl⟩ hb1 hb2 (T := TX6) (N := 6) rfl rfl (Nat.le_of_ble_eq_true rfl) dX6_hasAll_6 ⟨Nat.le_of_ble_eq_true rfl, Nat.le_of_ble_eq_true rfl⟩) (fun v3 S2 hf H locs hH => ?_)
    refine lv_icmp_gt (tgt := 16) hx hb dX6_hasAll_9 (by decide) (fun c4 => ?_) (fun c4 => ?_)
    · have hf := (if_pos c4).mp hf
      refine lv_iconst (v := 0) hx hb dX6_hasAll_16 (by decide) ?_
      exact q_retZ X hH hr hlk hf (Nat.zero_le _) (Nat.zero_le _) dX6_hasAll_17
    · have hf := (if_neg c4).mp hf
      refine lv_iconst (v := 1) hx hb dX6_hasAll_12 (by decide) ?_
      refine lv_goto (tgt := 17) hx hb dX6_hasAll_13 (by decide) ?_
      exact q_retZ X hH hr hlk hf (Nat.zero_le _) (Nat.zero_le _) dX6_hasAll_17
-- X6_sideOf
def f_X6_sideOf (S : PS) (a0 : Nat) (a1 : Int32) (post : Int32 → PS → Prop) : Prop :=
  gI S a0 10 2 fun v1 => (
  f_X7_isIn S v1 a1 fun v3 S2 => (
  if v3 = 0 then
    post 0 S2
  else
    post 1 S2))
abbrev rm_X6_sideOf : Room := { frames := 1, cells := 0, slots := 0, locals := 21 }
set_option maxHeartbeats 4000000 in
set_option maxRecDepth 100000 in
theorem c_X6_sideOf (l : Launch) (D : va_G) (cy : Nat → ClassId) (G : p_GT) (hG : p_ok G) (S : PS) (a0 : Nat) (a1 : Int32) (post : Int32 → PS → Prop) (sz : Nat) (hf : f_X6_sideOf S a0 a1 post) : p_Mi l D cy G S sz yX6_sideOf (Cond.code yX6_sideOf cX6_sideOf 2 (some .int) :: wG) rm_X6_sideOf [.ref a0, .int a1] 0 0 post := by
  refine q_start hG (Qc := fun A => va_Qi post (p_Post D cy A) A) mf_X6_sideOf (Nat.le_of_ble_eq_true rfl) (own := RX6) rfl ?_
  intro p e s m below meth c A X hr hlk hnm ls hl hH
  have hx := X.1.1
  have hb := X.1.2.1
  replace hl : lv_has ls 2 [(0, .ref a0), (1, .int a1)] := hl
  obtain ⟨H, hHe⟩ : ∃ H, H = s.heap := ⟨_, rfl⟩
  obtain ⟨locs, hlo⟩ : ∃ locs : List Loc, locs = [] := ⟨_, rfl⟩
  rw [← hHe, ← hlo] at hH
  show W p l e rm_X6_sideOf s m [.ref a0, .int a1].toArray below meth c s.heap [] 0 0 _ _
  rw [← hHe, ← hlo]
  refine lv_aload_n hx hb dX6_sideOf_0 rfl (lv_at hl 0 rfl) ?_
  refine q_getI (T := TX6) (N := 6) X hH hf iw_X6 rfl (by decide) tw_143 (fun _ h => h) dX6_sideOf_1 (fun v1 hf => ?_)
  refine lv_iload_n hx hb dX6_sideOf_4 rfl (lv_at hl 1 rfl) ?_
  refine q_backI0 X hH (q_runSN [.int v1, .int a1] [] X hH hl (c_X7_isIn l D cy G X.2.2.2.1 S v1 a1 _ _ hf) mf_X7_isIn tw_369 (List.mem_of_getElem? (i := 20) rfl) ⟨Nat.le_of_ble_eq_true rfl, Nat.le_of_ble_eq_true rfl⟩ rfl (Nat.le_of_ble_eq_true rfl) dX6_sideOf_5 ⟨Nat.le_of_ble_eq_true rfl, Nat.le_of_ble_eq_true rfl⟩) (fun v3 S2 hf H locs hH => ?_)
  refine lv_if_eq (tgt := 15) hx hb dX6_sideOf_8 (by decide) (fun c4 => ?_) (fun c4 => ?_)
  · have hf := (if_pos c4).mp hf
    refine lv_iconst (v := 0) hx hb dX6_sideOf_15 (by decide) ?_
    exact q_retI X hH hr hlk hf (Nat.zero_le _) (Nat.zero_le _) dX6_sideOf_16
  · have hf := (if_neg c4).mp hf
    refine lv_iconst (v := 1) hx hb dX6_sideOf_11 (by decide) ?_
    refine lv_goto (tgt := 16) hx hb dX6_sideOf_12 (by decide) ?_
    exact q_retI X hH hr hlk hf (Nat.zero_le _) (Nat.zero_le _) dX6_sideOf_16
-- X6_sameSide
def f_X6_sameSide (S : PS) (a0 : Nat) (a1 : Int32) (post : Int32 → PS → Prop) : Prop :=
  isO S a0 10 (
  f_X6_sideOf S a0 a1 fun v2 S1 => (
  if v2 = 1 then
    gI S1 a0 10 2 fun v7 => (
    post v7 S1)
  else
    isO S1 a0 10 (
    f_X6_everyone S1 a0 fun v5 S4 => (
    gI S4 a0 10 2 fun v6 => (
    post (v5 &&& (v6 ^^^ (-1))) S4)))))
abbrev rm_X6_sameSide : Room := { frames := 2, cells := 0, slots := 0, locals := 42 }
set_option maxHeartbeats 4000000 in
set_option maxRecDepth 100000 in
theorem c_X6_sameSide (l : Launch) (D : va_G) (cy : Nat → ClassId) (G : p_GT) (hG : p_ok G) (S : PS) (a0 : Nat) (a1 : Int32) (post : Int32 → PS → Prop) (sz : Nat) (hf : f_X6_sameSide S a0 a1 post) : p_Mi l D cy G S sz yX6_sameSide (Cond.code yX6_sameSide cX6_sameSide 2 (some .int) :: wG) rm_X6_sameSide [.ref a0, .int a1] 0 0 post := by
  refine q_start hG (Qc := fun A => va_Qi post (p_Post D cy A) A) mf_X6_sameSide (Nat.le_of_ble_eq_true rfl) (own := RX6) rfl ?_
  intro p e s m below meth c A X hr hlk hnm ls hl hH
  have hx := X.1.1
  have hb := X.1.2.1
  replace hl : lv_has ls 2 [(0, .ref a0), (1, .int a1)] := hl
  obtain ⟨H, hHe⟩ : ∃ H, H = s.heap := ⟨_, rfl⟩
  obtain ⟨locs, hlo⟩ : ∃ locs : List Loc, locs = [] := ⟨_, rfl⟩
  rw [← hHe, ← hlo] at hH
  show W p l e rm_X6_sameSide s m [.ref a0, .int a1].toArray below meth c s.heap [] 0 0 _ _
  rw [← hHe, ← hlo]
  refine lv_aload_n hx hb dX6_sameSide_0 rfl (lv_at hl 0 rfl) ?_
  refine lv_iload_n hx hb dX6_sameSide_1 rfl (lv_at hl 1 rfl) ?_
  obtain ⟨hb1, hb2, hf⟩ := hf
  refine q_backI0 X hH (q_runV [.int a1] [] X hH hl (c_X6_sideOf l D cy G X.2.2.2.1 S a0 a1 _ _ hf) mf_X6_sideOf mv_X6_sideOf tw_364 ⟨Nat.le_of_ble_eq_true rfl, Nat.le_of_ble_eq_true rfl⟩ hb1 hb2 (T := TX6) (N := 6) rfl rfl (Nat.le_of_ble_eq_true rfl) dX6_sameSide_2 ⟨Nat.le_of_ble_eq_true rfl, Nat.le_of_ble_eq_true rfl⟩) (fun v2 S1 hf H locs hH => ?_)
  refine lv_iconst (v := 1) hx hb dX6_sameSide_5 (by decide) ?_
  refine lv_icmp_ne (tgt := 16) hx hb dX6_sameSide_6 (by decide) (fun c3 => ?_) (fun c3 => ?_)
  · have hf := (if_neg c3).mp hf
    refine lv_aload_n hx hb dX6_sameSide_16 rfl (lv_at hl 0 rfl) ?_
    obtain ⟨hb1, hb2, hf⟩ := hf
    refine q_backI0 X hH (q_runV [] [] X hH hl (c_X6_everyone l D cy G X.2.2.2.1 S1 a0 _ _ hf) mf_X6_everyone mv_X6_everyone tw_391 ⟨Nat.le_of_ble_eq_true rfl, Nat.le_of_ble_eq_true rfl⟩ hb1 hb2 (T := TX6) (N := 6) rfl rfl (Nat.le_of_ble_eq_true rfl) dX6_sameSide_17 ⟨Nat.le_of_ble_eq_true rfl, Nat.le_of_ble_eq_true rfl⟩) (fun v5 S4 hf H locs hH => ?_)
    refine lv_aload_n hx hb dX6_sameSide_20 rfl (lv_at hl 0 rfl) ?_
    refine q_getI (T := TX6) (N := 6) X hH hf iw_X6 rfl (by decide) tw_143 (fun _ h => h) dX6_sameSide_21 (fun v6 hf => ?_)
    refine lv_iconst (v := (-1)) hx hb dX6_sameSide_24 (by decide) ?_
    refine lv_ixor hx hb dX6_sameSide_25 ?_
    refine lv_iand hx hb dX6_sameSide_26 ?_
    exact q_retI X hH hr hlk hf (Nat.zero_le _) (Nat.zero_le _) dX6_sameSide_27
  · have hf := (if_pos c3).mp hf
    refine lv_aload_n hx hb dX6_sameSide_9 rfl (lv_at hl 0 rfl) ?_
    refine q_getI (T := TX6) (N := 6) X hH hf iw_X6 rfl (by decide) tw_143 (fun _ h => h) dX6_sameSide_10 (fun v7 hf => ?_)
    refine lv_goto (tgt := 27) hx hb dX6_sameSide_13 (by decide) ?_
    exact q_retI X hH hr hlk hf (Nat.zero_le _) (Nat.zero_le _) dX6_sameSide_27
-- X6_otherSide
def f_X6_otherSide (S : PS) (a0 : Nat) (a1 : Int32) (post : Int32 → PS → Prop) : Prop :=
  isO S a0 10 (
  f_X6_everyone S a0 fun v2 S1 => (
  isO S1 a0 10 (
  f_X6_sameSide S1 a0 a1 fun v4 S3 => (
  post (v2 &&& (v4 ^^^ (-1))) S3))))
abbrev rm_X6_otherSide : Room := { frames := 3, cells := 0, slots := 0, locals := 63 }
set_option maxHeartbeats 4000000 in
set_option maxRecDepth 100000 in
theorem c_X6_otherSide (l : Launch) (D : va_G) (cy : Nat → ClassId) (G : p_GT) (hG : p_ok G) (S : PS) (a0 : Nat) (a1 : Int32) (post : Int32 → PS → Prop) (sz : Nat) (hf : f_X6_otherSide S a0 a1 post) : p_Mi l D cy G S sz yX6_otherSide (Cond.code yX6_otherSide cX6_otherSide 2 (some .int) :: wG) rm_X6_otherSide [.ref a0, .int a1] 0 0 post := by
  refine q_start hG (Qc := fun A => va_Qi post (p_Post D cy A) A) mf_X6_otherSide (Nat.le_of_ble_eq_true rfl) (own := RX6) rfl ?_
  intro p e s m below meth c A X hr hlk hnm ls hl hH
  have hx := X.1.1
  have hb := X.1.2.1
  replace hl : lv_has ls 2 [(0, .ref a0), (1, .int a1)] := hl
  obtain ⟨H, hHe⟩ : ∃ H, H = s.heap := ⟨_, rfl⟩
  obtain ⟨locs, hlo⟩ : ∃ locs : List Loc, locs = [] := ⟨_, rfl⟩
  rw [← hHe, ← hlo] at hH
  show W p l e rm_X6_otherSide s m [.ref a0, .int a1].toArray below meth c s.heap [] 0 0 _ _
  rw [← hHe, ← hlo]
  refine lv_aload_n hx hb dX6_otherSide_0 rfl (lv_at hl 0 rfl) ?_
  obtain ⟨hb1, hb2, hf⟩ := hf
  refine q_backI0 X hH (q_runV [] [] X hH hl (c_X6_everyone l D cy G X.2.2.2.1 S a0 _ _ hf) mf_X6_everyone mv_X6_everyone tw_391 ⟨Nat.le_of_ble_eq_true rfl, Nat.le_of_ble_eq_true rfl⟩ hb1 hb2 (T := TX6) (N := 6) rfl rfl (Nat.le_of_ble_eq_true rfl) dX6_otherSide_1 ⟨Nat.le_of_ble_eq_true rfl, Nat.le_of_ble_eq_true rfl⟩) (fun v2 S1 hf H locs hH => ?_)
  refine lv_aload_n hx hb dX6_otherSide_4 rfl (lv_at hl 0 rfl) ?_
  refine lv_iload_n hx hb dX6_otherSide_5 rfl (lv_at hl 1 rfl) ?_
  obtain ⟨hb1, hb2, hf⟩ := hf
  refine q_backI0 X hH (q_runV [.int a1] [.int v2] X hH hl (c_X6_sameSide l D cy G X.2.2.2.1 S1 a0 a1 _ _ hf) mf_X6_sameSide mv_X6_sameSide tw_395 ⟨Nat.le_of_ble_eq_true rfl, Nat.le_of_ble_eq_true rfl⟩ hb1 hb2 (T := TX6) (N := 6) rfl rfl (Nat.le_of_ble_eq_true rfl) dX6_otherSide_6 ⟨Nat.le_of_ble_eq_true rfl, Nat.le_of_ble_eq_true rfl⟩) (fun v4 S3 hf H locs hH => ?_)
  refine lv_iconst (v := (-1)) hx hb dX6_otherSide_9 (by decide) ?_
  refine lv_ixor hx hb dX6_otherSide_10 ?_
  refine lv_iand hx hb dX6_otherSide_11 ?_
  exact q_retI X hH hr hlk hf (Nat.zero_le _) (Nat.zero_le _) dX6_otherSide_12
-- X6_dismiss
def f_X6_dismiss_J124 (post : Int32 → PS → Prop) (S : PS) (l0 : Nat) (l1 : Int32) : Prop :=
  gI S l0 10 2 fun v1 => (
  gI S l0 10 2 fun v2 => (
  pV S l0 10 2 (.int ((v1 &&& (((1 : Int32) <<< (l1 &&& 31)) - 1)) ||| ((v2 >>> ((1 : Int32) &&& 31)) &&& ((((1 : Int32) <<< (l1 &&& 31)) - 1) ^^^ (-1))))) fun S3 => (
  gI S3 l0 10 1 fun v4 => (
  pV S3 l0 10 1 (.int (v4 - 1)) fun S5 => (
  gI S5 l0 10 4 fun v6 => (
  pV S5 l0 10 4 (.int (v6 + 1)) fun S7 => (
  gI S7 l0 10 1 fun v8 => (
  post v8 S7))))))))
def f_X6_dismiss_L98 (post : Int32 → PS → Prop) : Nat → PS → Nat → Int32 → Int32 → Prop
  | 0, _, _, _, _ => False
  | n + 1, S, l0, l1, l2 =>
  gI S l0 10 1 fun v1 => (
  if v1 ≤ l2 then
    f_X6_dismiss_J124 post S l0 l1
  else
    gI S l0 10 1 fun v3 => (
    isO S l0 10 (
    f_X6_setTie S l0 l2 (v3 - 1) 0 fun S4 => (
    (f_X6_dismiss_L98 post n) S4 l0 l1 (l2 + 1)))))
def f_X6_dismiss_J96 (post : Int32 → PS → Prop) (S : PS) (l0 : Nat) (l1 : Int32) : Prop :=
  f_X6_dismiss_L98 post 4096 S l0 l1 0
def f_X6_dismiss_J90 (post : Int32 → PS → Prop) (g15 : PS → Nat → Int32 → Int32 → Prop) (S : PS) (l0 : Nat) (l1 : Int32) (l2 : Int32) : Prop :=
  g15 S l0 l1 (l2 + 1)
def f_X6_dismiss_J63 (post : Int32 → PS → Prop) (g27 : PS → Nat → Int32 → Int32 → Int32 → Prop) (S : PS) (l0 : Nat) (l1 : Int32) (l2 : Int32) (l3 : Int32) (l4 : Int32) (t0 : Int32) : Prop :=
  gR S l0 10 0 fun v1 => (
  isO S l0 10 (
  f_X6_tie S l0 l4 t0 fun v3 S2 => (
  sI S2 v1 0 ((l2 * 9) + l3) v3 fun S4 => (
  g27 S4 l0 l1 l2 (l3 + 1)))))
def f_X6_dismiss_J49 (post : Int32 → PS → Prop) (g27 : PS → Nat → Int32 → Int32 → Int32 → Prop) (S : PS) (l0 : Nat) (l1 : Int32) (l2 : Int32) (l3 : Int32) (t0 : Int32) : Prop :=
  if l1 ≤ l3 then
    f_X6_dismiss_J63 post g27 S l0 l1 l2 l3 t0 (l3 + 1)
  else
    f_X6_dismiss_J63 post g27 S l0 l1 l2 l3 t0 l3
def f_X6_dismiss_L27 (post : Int32 → PS → Prop) (g15 : PS → Nat → Int32 → Int32 → Prop) : Nat → PS → Nat → Int32 → Int32 → Int32 → Prop
  | 0, _, _, _, _, _ => False
  | n + 1, S, l0, l1, l2, l3 =>
  gI S l0 10 1 fun v1 => (
  if (v1 - 1) ≤ l3 then
    f_X6_dismiss_J90 post g15 S l0 l1 l2
  else
    if l1 ≤ l2 then
      f_X6_dismiss_J49 post (f_X6_dismiss_L27 post g15 n) S l0 l1 l2 l3 (l2 + 1)
    else
      f_X6_dismiss_J49 post (f_X6_dismiss_L27 post g15 n) S l0 l1 l2 l3 l2)
def f_X6_dismiss_L15 (post : Int32 → PS → Prop) : Nat → PS → Nat → Int32 → Int32 → Prop
  | 0, _, _, _, _ => False
  | n + 1, S, l0, l1, l2 =>
  gI S l0 10 1 fun v1 => (
  if (v1 - 1) ≤ l2 then
    f_X6_dismiss_J96 post S l0 l1
  else
    f_X6_dismiss_L27 post (f_X6_dismiss_L15 post n) 4096 S l0 l1 l2 0)
def f_X6_dismiss (S : PS) (a0 : Nat) (a1 : Int32) (post : Int32 → PS → Prop) : Prop :=
  isO S a0 10 (
  f_X6_has S a0 a1 fun v2 S1 => (
  if v2 = 0 then
    gI S1 a0 10 1 fun v4 => (
    post v4 S1)
  else
    f_X6_dismiss_L15 post 4096 S1 a0 a1 0))
abbrev rm_X6_dismiss : Room := { frames := 2, cells := 0, slots := 0, locals := 44 }
set_option maxHeartbeats 4000000 in
set_option maxRecDepth 100000 in
theorem c_X6_dismiss (l : Launch) (D : va_G) (cy : Nat → ClassId) (G : p_GT) (hG : p_ok G) (S : PS) (a0 : Nat) (a1 : Int32) (post : Int32 → PS → Prop) (sz : Nat) (hf : f_X6_dismiss S a0 a1 post) : p_Mi l D cy G S sz yX6_dismiss (Cond.code yX6_dismiss cX6_dismiss 6 (some .int) :: wG) rm_X6_dismiss [.ref a0, .int a1] 0 0 post := by
  refine q_start hG (Qc := fun A => va_Qi post (p_Post D cy A) A) mf_X6_dismiss (Nat.le_of_ble_eq_true rfl) (own := RX6) rfl ?_
  intro p e s m below meth c A X hr hlk hnm ls hl hH
  have hx := X.1.1
  have hb := X.1.2.1
  replace hl : lv_has ls 6 [(0, .ref a0), (1, .int a1)] := hl
  obtain ⟨H, hHe⟩ : ∃ H, H = s.heap := ⟨_, rfl⟩
  obtain ⟨locs, hlo⟩ : ∃ locs : List Loc, locs = [] := ⟨_, rfl⟩
  rw [← hHe, ← hlo] at hH
  show W p l e rm_X6_dismiss s m [.ref a0, .int a1].toArray below meth c s.heap [] 0 0 _ _
  rw [← hHe, ← hlo]
  have hL15 : ∀ (n15 : Nat) (S : PS) (l0 : Nat) (l1 : Int32) (l2 : Int32), f_X6_dismiss_L15 post n15 S l0 l1 l2 → ∀ (H : Heap) (locs : List Loc) (ls : Array Slot), p_H D cy S A s H locs → lv_has ls 6 [(0, .ref l0), (1, .int l1), (2, .int l2)] → W p l e rm_X6_dismiss s m [.ref a0, .int a1].toArray below meth c H locs 0 0 (MQ below (va_Qi post (p_Post D cy A) A) [.ref a0, .int a1].toArray s 0 0 A) (F0 m 15 ls []) := by
    intro n15
    induction n15 with
    | zero => intro S l0 l1 l2 hf; exact hf.elim
    | succ n15 ih15 =>
      intro S l0 l1 l2 hf H locs ls hH hl
      have hJ96 : ∀ (S : PS) (l0 : Nat) (l1 : Int32), f_X6_dismiss_J96 post S l0 l1 → ∀ (H : Heap) (locs : List Loc) (ls : Array Slot), p_H D cy S A s H locs → lv_has ls 6 [(0, .ref l0), (1, .int l1)] → W p l e rm_X6_dismiss s m [.ref a0, .int a1].toArray below meth c H locs 0 0 (MQ below (va_Qi post (p_Post D cy A) A) [.ref a0, .int a1].toArray s 0 0 A) (F0 m 96 ls []) := by
        intro S l0 l1 hf H locs ls hH hl
        have hL98 : ∀ (n98 : Nat) (S : PS) (l0 : Nat) (l1 : Int32) (l2 : Int32), f_X6_dismiss_L98 post n98 S l0 l1 l2 → ∀ (H : Heap) (locs : List Loc) (ls : Array Slot), p_H D cy S A s H locs → lv_has ls 6 [(0, .ref l0), (1, .int l1), (2, .int l2)] → W p l e rm_X6_dismiss s m [.ref a0, .int a1].toArray below meth c H locs 0 0 (MQ below (va_Qi post (p_Post D cy A) A) [.ref a0, .int a1].toArray s 0 0 A) (F0 m 98 ls []) := by
          intro n98
          induction n98 with
          | zero => intro S l0 l1 l2 hf; exact hf.elim
          | succ n98 ih98 =>
            intro S l0 l1 l2 hf H locs ls hH hl
            have hJ124 : ∀ (S : PS) (l0 : Nat) (l1 : Int32), f_X6_dismiss_J124 post S l0 l1 → ∀ (H : Heap) (locs : List Loc) (ls : Array Slot), p_H D cy S A s H locs → lv_has ls 6 [(0, .ref l0), (1, .int l1)] → W p l e rm_X6_dismiss s m [.ref a0, .int a1].toArray below meth c H locs 0 0 (MQ below (va_Qi post (p_Post D cy A) A) [.ref a0, .int a1].toArray s 0 0 A) (F0 m 124 ls []) := by
              intro S l0 l1 hf H locs ls hH hl
              refine lv_iconst (v := 1) hx hb dX6_dismiss_124 (by decide) ?_
              refine lv_iload_n hx hb dX6_dismiss_125 rfl (lv_at hl 1 rfl) ?_
              refine lv_ishl hx hb dX6_dismiss_126 ?_
              refine lv_iconst (v := 1) hx hb dX6_dismiss_127 (by decide) ?_
              refine lv_isub hx hb dX6_dismiss_128 ?_
              refine lv_istore_n (lv' := [(2, .int (((1 : Int32) <<< (l1 &&& 31)) - 1)), (0, .ref l0), (1, .int l1)]) hx hb dX6_dismiss_129 rfl hl (by decide) rfl (fun ls hl => ?_)
              refine lv_aload_n hx hb dX6_dismiss_130 rfl (lv_at hl 1 rfl) ?_
              refine lv_aload_n hx hb dX6_dismiss_131 rfl (lv_at hl 1 rfl) ?_
              refine q_getI (T := TX6) (N := 6) X hH hf iw_X6 rfl (by decide) tw_143 (fun _ h => h) dX6_dismiss_132 (fun v1 hf => ?_)
              refine lv_iload_n hx hb dX6_dismiss_135 rfl (lv_at hl 0 rfl) ?_
              refine lv_iand hx hb dX6_dismiss_136 ?_
              refine lv_aload_n hx hb dX6_dismiss_137 rfl (lv_at hl 1 rfl) ?_
              refine q_getI (T := TX6) (N := 6) X hH hf iw_X6 rfl (by decide) tw_143 (fun _ h => h) dX6_dismiss_138 (fun v2 hf => ?_)
              refine lv_iconst (v := 1) hx hb dX6_dismiss_141 (by decide) ?_
              refine lv_ishr hx hb dX6_dismiss_142 ?_
              refine lv_iload_n hx hb dX6_dismiss_143 rfl (lv_at hl 0 rfl) ?_
              refine lv_iconst (v := (-1)) hx hb dX6_dismiss_144 (by decide) ?_
              refine lv_ixor hx hb dX6_dismiss_145 ?_
              refine lv_iand hx hb dX6_dismiss_146 ?_
              refine lv_ior hx hb dX6_dismiss_147 ?_
              refine q_putV (T := TX6) (N := 6) (ty0 := tyX6) (ty := tyX6 2) X hH hf iw_X6 tyX6_ok nmX6 rfl (by decide) tw_143 (fun _ h => h) rfl (tyX6_ok 2 (by decide)) rfl rfl dX6_dismiss_148 (fun S3 hf H locs hH => ?_)
              refine lv_aload_n hx hb dX6_dismiss_151 rfl (lv_at hl 1 rfl) ?_
              refine lv_dup hx hb dX6_dismiss_152 rfl ?_
              refine q_getI (T := TX6) (N := 6) X hH hf iw_X6 rfl (by decide) tw_139 (fun _ h => h) dX6_dismiss_153 (fun v4 hf => ?_)
              refine lv_iconst (v := 1) hx hb dX6_dismiss_156 (by decide) ?_
              refine lv_isub hx hb dX6_dismiss_157 ?_
              refine q_putV (T := TX6) (N := 6) (ty0 := tyX6) (ty := tyX6 1) X hH hf iw_X6 tyX6_ok nmX6 rfl (by decide) tw_139 (fun _ h => h) rfl (tyX6_ok 1 (by decide)) rfl rfl dX6_dismiss_158 (fun S5 hf H locs hH => ?_)
              refine lv_aload_n hx hb dX6_dismiss_161 rfl (lv_at hl 1 rfl) ?_
              refine lv_dup hx hb dX6_dismiss_162 rfl ?_
              refine q_getI (T := TX6) (N := 6) X hH hf iw_X6 rfl (by decide) tw_147 (fun _ h => h) dX6_dismiss_163 (fun v6 hf => ?_)
              refine lv_iconst (v := 1) hx hb dX6_dismiss_166 (by decide) ?_
              refine lv_iadd hx hb dX6_dismiss_167 ?_
              refine q_putV (T := TX6) (N := 6) (ty0 := tyX6) (ty := tyX6 4) X hH hf iw_X6 tyX6_ok nmX6 rfl (by decide) tw_147 (fun _ h => h) rfl (tyX6_ok 4 (by decide)) rfl rfl dX6_dismiss_168 (fun S7 hf H locs hH => ?_)
              refine lv_aload_n hx hb dX6_dismiss_171 rfl (lv_at hl 1 rfl) ?_
              refine q_getI (T := TX6) (N := 6) X hH hf iw_X6 rfl (by decide) tw_139 (fun _ h => h) dX6_dismiss_172 (fun v8 hf => ?_)
              exact q_retI X hH hr hlk hf (Nat.zero_le _) (Nat.zero_le _) dX6_dismiss_175
            refine lv_iload_n hx hb dX6_dismiss_98 rfl (lv_at hl 2 rfl) ?_
            refine lv_aload_n hx hb dX6_dismiss_99 rfl (lv_at hl 0 rfl) ?_
            refine q_getI (T := TX6) (N := 6) X hH hf iw_X6 rfl (by decide) tw_139 (fun _ h => h) dX6_dismiss_100 (fun v1 hf => ?_)
            refine lv_icmp_ge (tgt := 124) hx hb dX6_dismiss_103 (by decide) (fun c2 => ?_) (fun c2 => ?_)
            · have hf := (if_pos c2).mp hf
              exact hJ124 S l0 l1 hf H locs ls hH (lv_sub hl [0, 1] rfl)
            · have hf := (if_neg c2).mp hf
              refine lv_aload_n hx hb dX6_dismiss_106 rfl (lv_at hl 0 rfl) ?_
              refine lv_iload_n hx hb dX6_dismiss_107 rfl (lv_at hl 2 rfl) ?_
              refine lv_aload_n hx hb dX6_dismiss_108 rfl (lv_at hl 0 rfl) ?_
              refine q_getI (T := TX6) (N := 6) X hH hf iw_X6 rfl (by decide) tw_139 (fun _ h => h) dX6_dismiss_109 (fun v3 hf => ?_)
              refine lv_iconst (v := 1) hx hb dX6_dismiss_112 (by decide) ?_
              refine lv_isub hx hb dX6_dismiss_113 ?_
              refine lv_iconst (v := 0) hx hb dX6_dismiss_114 (by decide) ?_
              obtain ⟨hb1, hb2, hf⟩ := hf
              refine q_backV0 X hH (q_runV [.int l2, .int (v3 - 1), .int 0] [] X hH hl (c_X6_setTie l D cy G X.2.2.2.1 S l0 l2 (v3 - 1) 0 _ _ hf) mf_X6_setTie mv_X6_setTie tw_1026 ⟨Nat.le_of_ble_eq_true rfl, Nat.le_of_ble_eq_true rfl⟩ hb1 hb2 (T := TX6) (N := 6) rfl rfl (Nat.le_of_ble_eq_true rfl) dX6_dismiss_115 ⟨Nat.le_of_ble_eq_true rfl, Nat.le_of_ble_eq_true rfl⟩) (fun S4 hf H locs hH => ?_)
              refine lv_iinc (v := l2 + 1) (lv' := [(2, .int (l2 + 1)), (0, .ref l0), (1, .int l1)]) hx hb dX6_dismiss_118 hl (k := 2) rfl rfl (by decide) rfl (fun ls hl => ?_)
              refine lv_goto (tgt := 98) hx hb dX6_dismiss_121 (by decide) ?_
              exact ih98 S4 l0 l1 (l2 + 1) hf H locs ls hH (lv_sub hl [1, 2, 0] rfl)
        refine lv_iconst (v := 0) hx hb dX6_dismiss_96 (by decide) ?_
        refine lv_istore_n (lv' := [(2, .int 0), (0, .ref l0), (1, .int l1)]) hx hb dX6_dismiss_97 rfl hl (by decide) rfl (fun ls hl => ?_)
        exact hL98 4096 S l0 l1 0 hf H locs ls hH (lv_sub hl [1, 2, 0] rfl)
      have hL27 : ∀ (n27 : Nat) (S : PS) (l0 : Nat) (l1 : Int32) (l2 : Int32) (l3 : Int32), f_X6_dismiss_L27 post (f_X6_dismiss_L15 post n15) n27 S l0 l1 l2 l3 → ∀ (H : Heap) (locs : List Loc) (ls : Array Slot), p_H D cy S A s H locs → lv_has ls 6 [(0, .ref l0), (1, .int l1), (2, .int l2), (3, .int l3)] → W p l e rm_X6_dismiss s m [.ref a0, .int a1].toArray below meth c H locs 0 0 (MQ below (va_Qi post (p_Post D cy A) A) [.ref a0, .int a1].toArray s 0 0 A) (F0 m 27 ls []) := by
        intro n27
        induction n27 with
        | zero => intro S l0 l1 l2 l3 hf; exact hf.elim
        | succ n27 ih27 =>
          intro S l0 l1 l2 l3 hf H locs ls hH hl
          have hJ90 : ∀ (S : PS) (l0 : Nat) (l1 : Int32) (l2 : Int32), f_X6_dismiss_J90 post (f_X6_dismiss_L15 post n15) S l0 l1 l2 → ∀ (H : Heap) (locs : List Loc) (ls : Array Slot), p_H D cy S A s H locs → lv_has ls 6 [(0, .ref l0), (1, .int l1), (2, .int l2)] → W p l e rm_X6_dismiss s m [.ref a0, .int a1].toArray below meth c H locs 0 0 (MQ below (va_Qi post (p_Post D cy A) A) [.ref a0, .int a1].toArray s 0 0 A) (F0 m 90 ls []) := by
            intro S l0 l1 l2 hf H locs ls hH hl
            refine lv_iinc (v := l2 + 1) (lv' := [(2, .int (l2 + 1)), (0, .ref l0), (1, .int l1)]) hx hb dX6_dismiss_90 hl (k := 2) rfl rfl (by decide) rfl (fun ls hl => ?_)
            refine lv_goto (tgt := 15) hx hb dX6_dismiss_93 (by decide) ?_
            exact ih15 S l0 l1 (l2 + 1) hf H locs ls hH (lv_sub hl [1, 2, 0] rfl)
          have hJ49 : ∀ (S : PS) (l0 : Nat) (l1 : Int32) (l2 : Int32) (l3 : Int32) (t0 : Int32), f_X6_dismiss_J49 post (f_X6_dismiss_L27 post (f_X6_dismiss_L15 post n15) n27) S l0 l1 l2 l3 t0 → ∀ (H : Heap) (locs : List Loc) (ls : Array Slot), p_H D cy S A s H locs → lv_has ls 6 [(0, .ref l0), (1, .int l1), (2, .int l2), (3, .int l3)] → W p l e rm_X6_dismiss s m [.ref a0, .int a1].toArray below meth c H locs 0 0 (MQ below (va_Qi post (p_Post D cy A) A) [.ref a0, .int a1].toArray s 0 0 A) (F0 m 49 ls [.int t0]) := by
            intro S l0 l1 l2 l3 t0 hf H locs ls hH hl
            have hJ63 : ∀ (S : PS) (l0 : Nat) (l1 : Int32) (l2 : Int32) (l3 : Int32) (l4 : Int32) (t0 : Int32), f_X6_dismiss_J63 post (f_X6_dismiss_L27 post (f_X6_dismiss_L15 post n15) n27) S l0 l1 l2 l3 l4 t0 → ∀ (H : Heap) (locs : List Loc) (ls : Array Slot), p_H D cy S A s H locs → lv_has ls 6 [(0, .ref l0), (1, .int l1), (2, .int l2), (3, .int l3), (4, .int l4)] → W p l e rm_X6_dismiss s m [.ref a0, .int a1].toArray below meth c H locs 0 0 (MQ below (va_Qi post (p_Post D cy A) A) [.ref a0, .int a1].toArray s 0 0 A) (F0 m 63 ls [.int t0]) := by
              intro S l0 l1 l2 l3 l4 t0 hf H locs ls hH hl
              refine lv_istore (lv' := [(5, .int t0), (0, .ref l0), (1, .int l1), (2, .int l2), (3, .int l3), (4, .int l4)]) hx hb dX6_dismiss_63 hl (by decide) rfl (fun ls hl => ?_)
              refine lv_aload_n hx hb dX6_dismiss_65 rfl (lv_at hl 1 rfl) ?_
              refine q_getR (T := TX6) (N := 6) X hH hf iw_X6 rfl (by decide) tw_138 (fun _ h => h) dX6_dismiss_66 (fun v1 hf => ?_)
              refine lv_iload_n hx hb dX6_dismiss_69 rfl (lv_at hl 3 rfl) ?_
              refine lv_bipush (v := 9) hx hb dX6_dismiss_70 (by decide) ?_
              refine lv_imul hx hb dX6_dismiss_72 ?_
              refine lv_iload_n hx hb dX6_dismiss_73 rfl (lv_at hl 4 rfl) ?_
              refine lv_iadd hx hb dX6_dismiss_74 ?_
              refine lv_aload_n hx hb dX6_dismiss_75 rfl (lv_at hl 1 rfl) ?_
              refine lv_iload hx hb dX6_dismiss_76 (lv_at hl 5 rfl) ?_
              refine lv_iload hx hb dX6_dismiss_78 (lv_at hl 0 rfl) ?_
              obtain ⟨hb1, hb2, hf⟩ := hf
              refine q_backI0 X hH (q_runV [.int l4, .int t0] [.int ((l2 * 9) + l3), .ref v1] X hH hl (c_X6_tie l D cy G X.2.2.2.1 S l0 l4 t0 _ _ hf) mf_X6_tie mv_X6_tie tw_371 ⟨Nat.le_of_ble_eq_true rfl, Nat.le_of_ble_eq_true rfl⟩ hb1 hb2 (T := TX6) (N := 6) rfl rfl (Nat.le_of_ble_eq_true rfl) dX6_dismiss_80 ⟨Nat.le_of_ble_eq_true rfl, Nat.le_of_ble_eq_true rfl⟩) (fun v3 S2 hf H locs hH => ?_)
              refine q_iast X hH hf dX6_dismiss_83 (fun S4 hf H locs hH => ?_)
              refine lv_iinc (v := l3 + 1) (lv' := [(3, .int (l3 + 1)), (5, .int t0), (0, .ref l0), (1, .int l1), (2, .int l2), (4, .int l4)]) hx hb dX6_dismiss_84 hl (k := 4) rfl rfl (by decide) rfl (fun ls hl => ?_)
              refine lv_goto (tgt := 27) hx hb dX6_dismiss_87 (by decide) ?_
              exact ih27 S4 l0 l1 l2 (l3 + 1) hf H locs ls hH (lv_sub hl [2, 3, 4, 0] rfl)
            refine lv_istore (lv' := [(4, .int t0), (0, .ref l0), (1, .int l1), (2, .int l2), (3, .int l3)]) hx hb dX6_dismiss_49 hl (by decide) rfl (fun ls hl => ?_)
            refine lv_iload_n hx hb dX6_dismiss_51 rfl (lv_at hl 4 rfl) ?_
            refine lv_iload_n hx hb dX6_dismiss_52 rfl (lv_at hl 2 rfl) ?_
            refine lv_icmp_ge (tgt := 60) hx hb dX6_dismiss_53 (by decide) (fun c1 => ?_) (fun c1 => ?_)
            · have hf := (if_pos c1).mp hf
              refine lv_iload_n hx hb dX6_dismiss_60 rfl (lv_at hl 4 rfl) ?_
              refine lv_iconst (v := 1) hx hb dX6_dismiss_61 (by decide) ?_
              refine lv_iadd hx hb dX6_dismiss_62 ?_
              exact hJ63 S l0 l1 l2 l3 t0 (l3 + 1) hf H locs ls hH (lv_sub hl [1, 2, 3, 4, 0] rfl)
            · have hf := (if_neg c1).mp hf
              refine lv_iload_n hx hb dX6_dismiss_56 rfl (lv_at hl 4 rfl) ?_
              refine lv_goto (tgt := 63) hx hb dX6_dismiss_57 (by decide) ?_
              exact hJ63 S l0 l1 l2 l3 t0 l3 hf H locs ls hH (lv_sub hl [1, 2, 3, 4, 0] rfl)
          refine lv_iload_n hx hb dX6_dismiss_27 rfl (lv_at hl 3 rfl) ?_
          refine lv_aload_n hx hb dX6_dismiss_28 rfl (lv_at hl 0 rfl) ?_
          refine q_getI (T := TX6) (N := 6) X hH hf iw_X6 rfl (by decide) tw_139 (fun _ h => h) dX6_dismiss_29 (fun v1 hf => ?_)
          refine lv_iconst (v := 1) hx hb dX6_dismiss_32 (by decide) ?_
          refine lv_isub hx hb dX6_dismiss_33 ?_
          refine lv_icmp_ge (tgt := 90) hx hb dX6_dismiss_34 (by decide) (fun c2 => ?_) (fun c2 => ?_)
          · have hf := (if_pos c2).mp hf
            exact hJ90 S l0 l1 l2 hf H locs ls hH (lv_sub hl [0, 1, 2] rfl)
          · have hf := (if_neg c2).mp hf
            refine lv_iload_n hx hb dX6_dismiss_37 rfl (lv_at hl 2 rfl) ?_
            refine lv_iload_n hx hb dX6_dismiss_38 rfl (lv_at hl 1 rfl) ?_
            refine lv_icmp_ge (tgt := 46) hx hb dX6_dismiss_39 (by decide) (fun c3 => ?_) (fun c3 => ?_)
            · have hf := (if_pos c3).mp hf
              refine lv_iload_n hx hb dX6_dismiss_46 rfl (lv_at hl 2 rfl) ?_
              refine lv_iconst (v := 1) hx hb dX6_dismiss_47 (by decide) ?_
              refine lv_iadd hx hb dX6_dismiss_48 ?_
              exact hJ49 S l0 l1 l2 l3 (l2 + 1) hf H locs ls hH hl
            · have hf := (if_neg c3).mp hf
              refine lv_iload_n hx hb dX6_dismiss_42 rfl (lv_at hl 2 rfl) ?_
              refine lv_goto (tgt := 49) hx hb dX6_dismiss_43 (by decide) ?_
              exact hJ49 S l0 l1 l2 l3 l2 hf H locs ls hH hl
      refine lv_iload_n hx hb dX6_dismiss_15 rfl (lv_at hl 2 rfl) ?_
      refine lv_aload_n hx hb dX6_dismiss_16 rfl (lv_at hl 0 rfl) ?_
      refine q_getI (T := TX6) (N := 6) X hH hf iw_X6 rfl (by decide) tw_139 (fun _ h => h) dX6_dismiss_17 (fun v1 hf => ?_)
      refine lv_iconst (v := 1) hx hb dX6_dismiss_20 (by decide) ?_
      refine lv_isub hx hb dX6_dismiss_21 ?_
      refine lv_icmp_ge (tgt := 96) hx hb dX6_dismiss_22 (by decide) (fun c2 => ?_) (fun c2 => ?_)
      · have hf := (if_pos c2).mp hf
        exact hJ96 S l0 l1 hf H locs ls hH (lv_sub hl [0, 1] rfl)
      · have hf := (if_neg c2).mp hf
        refine lv_iconst (v := 0) hx hb dX6_dismiss_25 (by decide) ?_
        refine lv_istore_n (lv' := [(3, .int 0), (0, .ref l0), (1, .int l1), (2, .int l2)]) hx hb dX6_dismiss_26 rfl hl (by decide) rfl (fun ls hl => ?_)
        exact hL27 4096 S l0 l1 l2 0 hf H locs ls hH (lv_sub hl [1, 2, 3, 0] rfl)
  refine lv_aload_n hx hb dX6_dismiss_0 rfl (lv_at hl 0 rfl) ?_
  refine lv_iload_n hx hb dX6_dismiss_1 rfl (lv_at hl 1 rfl) ?_
  obtain ⟨hb1, hb2, hf⟩ := hf
  refine q_backI0 X hH (q_runV [.int a1] [] X hH hl (c_X6_has l D cy G X.2.2.2.1 S a0 a1 _ _ hf) mf_X6_has mv_X6_has tw_375 ⟨Nat.le_of_ble_eq_true rfl, Nat.le_of_ble_eq_true rfl⟩ hb1 hb2 (T := TX6) (N := 6) rfl rfl (Nat.le_of_ble_eq_true rfl) dX6_dismiss_2 ⟨Nat.le_of_ble_eq_true rfl, Nat.le_of_ble_eq_true rfl⟩) (fun v2 S1 hf H locs hH => ?_)
  refine lv_if_ne (tgt := 13) hx hb dX6_dismiss_5 (by decide) (fun c3 => ?_) (fun c3 => ?_)
  · have hf := (if_neg c3).mp hf
    refine lv_iconst (v := 0) hx hb dX6_dismiss_13 (by decide) ?_
    refine lv_istore_n (lv' := [(2, .int 0), (0, .ref a0), (1, .int a1)]) hx hb dX6_dismiss_14 rfl hl (by decide) rfl (fun ls hl => ?_)
    exact hL15 4096 S1 a0 a1 0 hf H locs ls hH (lv_sub hl [1, 2, 0] rfl)
  · have hf := (if_pos c3).mp hf
    refine lv_aload_n hx hb dX6_dismiss_8 rfl (lv_at hl 0 rfl) ?_
    refine q_getI (T := TX6) (N := 6) X hH hf iw_X6 rfl (by decide) tw_139 (fun _ h => h) dX6_dismiss_9 (fun v4 hf => ?_)
    exact q_retI X hH hr hlk hf (Nat.zero_le _) (Nat.zero_le _) dX6_dismiss_12
-- X6_retie
def f_X6_retie (S : PS) (a0 : Nat) (a1 : Int32) (a2 : Int32) (a3 : Int32) (post : Int32 → PS → Prop) : Prop :=
  isO S a0 10 (
  f_X6_tie S a0 a1 a2 fun v2 S1 => (
  isO S1 a0 10 (
  f_X6_setTie S1 a0 a1 a2 a3 fun S3 => (
  post v2 S3))))
abbrev rm_X6_retie : Room := { frames := 2, cells := 0, slots := 0, locals := 44 }
set_option maxHeartbeats 4000000 in
set_option maxRecDepth 100000 in
theorem c_X6_retie (l : Launch) (D : va_G) (cy : Nat → ClassId) (G : p_GT) (hG : p_ok G) (S : PS) (a0 : Nat) (a1 : Int32) (a2 : Int32) (a3 : Int32) (post : Int32 → PS → Prop) (sz : Nat) (hf : f_X6_retie S a0 a1 a2 a3 post) : p_Mi l D cy G S sz yX6_retie (Cond.code yX6_retie cX6_retie 5 (some .int) :: wG) rm_X6_retie [.ref a0, .int a1, .int a2, .int a3] 0 0 post := by
  refine q_start hG (Qc := fun A => va_Qi post (p_Post D cy A) A) mf_X6_retie (Nat.le_of_ble_eq_true rfl) (own := RX6) rfl ?_
  intro p e s m below meth c A X hr hlk hnm ls hl hH
  have hx := X.1.1
  have hb := X.1.2.1
  replace hl : lv_has ls 5 [(0, .ref a0), (1, .int a1), (2, .int a2), (3, .int a3)] := hl
  obtain ⟨H, hHe⟩ : ∃ H, H = s.heap := ⟨_, rfl⟩
  obtain ⟨locs, hlo⟩ : ∃ locs : List Loc, locs = [] := ⟨_, rfl⟩
  rw [← hHe, ← hlo] at hH
  show W p l e rm_X6_retie s m [.ref a0, .int a1, .int a2, .int a3].toArray below meth c s.heap [] 0 0 _ _
  rw [← hHe, ← hlo]
  refine lv_aload_n hx hb dX6_retie_0 rfl (lv_at hl 0 rfl) ?_
  refine lv_iload_n hx hb dX6_retie_1 rfl (lv_at hl 1 rfl) ?_
  refine lv_iload_n hx hb dX6_retie_2 rfl (lv_at hl 2 rfl) ?_
  obtain ⟨hb1, hb2, hf⟩ := hf
  refine q_backI0 X hH (q_runV [.int a1, .int a2] [] X hH hl (c_X6_tie l D cy G X.2.2.2.1 S a0 a1 a2 _ _ hf) mf_X6_tie mv_X6_tie tw_371 ⟨Nat.le_of_ble_eq_true rfl, Nat.le_of_ble_eq_true rfl⟩ hb1 hb2 (T := TX6) (N := 6) rfl rfl (Nat.le_of_ble_eq_true rfl) dX6_retie_3 ⟨Nat.le_of_ble_eq_true rfl, Nat.le_of_ble_eq_true rfl⟩) (fun v2 S1 hf H locs hH => ?_)
  refine lv_istore (lv' := [(4, .int v2), (0, .ref a0), (1, .int a1), (2, .int a2), (3, .int a3)]) hx hb dX6_retie_6 hl (by decide) rfl (fun ls hl => ?_)
  refine lv_aload_n hx hb dX6_retie_8 rfl (lv_at hl 1 rfl) ?_
  refine lv_iload_n hx hb dX6_retie_9 rfl (lv_at hl 2 rfl) ?_
  refine lv_iload_n hx hb dX6_retie_10 rfl (lv_at hl 3 rfl) ?_
  refine lv_iload_n hx hb dX6_retie_11 rfl (lv_at hl 4 rfl) ?_
  obtain ⟨hb1, hb2, hf⟩ := hf
  refine q_backV0 X hH (q_runV [.int a1, .int a2, .int a3] [] X hH hl (c_X6_setTie l D cy G X.2.2.2.1 S1 a0 a1 a2 a3 _ _ hf) mf_X6_setTie mv_X6_setTie tw_1026 ⟨Nat.le_of_ble_eq_true rfl, Nat.le_of_ble_eq_true rfl⟩ hb1 hb2 (T := TX6) (N := 6) rfl rfl (Nat.le_of_ble_eq_true rfl) dX6_retie_12 ⟨Nat.le_of_ble_eq_true rfl, Nat.le_of_ble_eq_true rfl⟩) (fun S3 hf H locs hH => ?_)
  refine lv_iload hx hb dX6_retie_15 (lv_at hl 0 rfl) ?_
  exact q_retI X hH hr hlk hf (Nat.zero_le _) (Nat.zero_le _) dX6_retie_17
-- X6_unite
def f_X6_unite_J45 (post : Int32 → PS → Prop) (S : PS) (l0 : Nat) (l1 : Int32) (l2 : Int32) : Prop :=
  isO S l0 10 (
  f_X6_dismiss S l0 l2 fun v2 S1 => (
  gI S1 l0 10 5 fun v3 => (
  pV S1 l0 10 5 (.int (v3 + 1)) fun S4 => (
  if l1 ≤ l2 then
    post l1 S4
  else
    post (l1 - 1) S4))))
def f_X6_unite_J39 (post : Int32 → PS → Prop) (g2 : PS → Nat → Int32 → Int32 → Int32 → Prop) (S : PS) (l0 : Nat) (l1 : Int32) (l2 : Int32) (l3 : Int32) : Prop :=
  g2 S l0 l1 l2 (l3 + 1)
def f_X6_unite_L2 (post : Int32 → PS → Prop) : Nat → PS → Nat → Int32 → Int32 → Int32 → Prop
  | 0, _, _, _, _, _ => False
  | n + 1, S, l0, l1, l2, l3 =>
  gI S l0 10 1 fun v1 => (
  if v1 ≤ l3 then
    f_X6_unite_J45 post S l0 l1 l2
  else
    if l3 = l1 then
      f_X6_unite_J39 post (f_X6_unite_L2 post n) S l0 l1 l2 l3
    else
      if l3 = l2 then
        f_X6_unite_J39 post (f_X6_unite_L2 post n) S l0 l1 l2 l3
      else
        isO S l0 10 (
        f_X6_tie S l0 l1 l3 fun v6 S5 => (
        isO S5 l0 10 (
        f_X6_tie S5 l0 l2 l3 fun v8 S7 => (
        isO S7 l0 10 (
        f_X6_setTie S7 l0 l1 l3 (v6 + v8) fun S9 => (
        f_X6_unite_J39 post (f_X6_unite_L2 post n) S9 l0 l1 l2 l3)))))))
def f_X6_unite (S : PS) (a0 : Nat) (a1 : Int32) (a2 : Int32) (post : Int32 → PS → Prop) : Prop :=
  f_X6_unite_L2 post 4096 S a0 a1 a2 0
abbrev rm_X6_unite : Room := { frames := 3, cells := 0, slots := 0, locals := 69 }
set_option maxHeartbeats 4000000 in
set_option maxRecDepth 100000 in
theorem c_X6_unite (l : Launch) (D : va_G) (cy : Nat → ClassId) (G : p_GT) (hG : p_ok G) (S : PS) (a0 : Nat) (a1 : Int32) (a2 : Int32) (post : Int32 → PS → Prop) (sz : Nat) (hf : f_X6_unite S a0 a1 a2 post) : p_Mi l D cy G S sz yX6_unite (Cond.code yX6_unite cX6_unite 4 (some .int) :: wG) rm_X6_unite [.ref a0, .int a1, .int a2] 0 0 post := by
  refine q_start hG (Qc := fun A => va_Qi post (p_Post D cy A) A) mf_X6_unite (Nat.le_of_ble_eq_true rfl) (own := RX6) rfl ?_
  intro p e s m below meth c A X hr hlk hnm ls hl hH
  have hx := X.1.1
  have hb := X.1.2.1
  replace hl : lv_has ls 4 [(0, .ref a0), (1, .int a1), (2, .int a2)] := hl
  obtain ⟨H, hHe⟩ : ∃ H, H = s.heap := ⟨_, rfl⟩
  obtain ⟨locs, hlo⟩ : ∃ locs : List Loc, locs = [] := ⟨_, rfl⟩
  rw [← hHe, ← hlo] at hH
  show W p l e rm_X6_unite s m [.ref a0, .int a1, .int a2].toArray below meth c s.heap [] 0 0 _ _
  rw [← hHe, ← hlo]
  have hL2 : ∀ (n2 : Nat) (S : PS) (l0 : Nat) (l1 : Int32) (l2 : Int32) (l3 : Int32), f_X6_unite_L2 post n2 S l0 l1 l2 l3 → ∀ (H : Heap) (locs : List Loc) (ls : Array Slot), p_H D cy S A s H locs → lv_has ls 4 [(0, .ref l0), (1, .int l1), (2, .int l2), (3, .int l3)] → W p l e rm_X6_unite s m [.ref a0, .int a1, .int a2].toArray below meth c H locs 0 0 (MQ below (va_Qi post (p_Post D cy A) A) [.ref a0, .int a1, .int a2].toArray s 0 0 A) (F0 m 2 ls []) := by
    intro n2
    induction n2 with
    | zero => intro S l0 l1 l2 l3 hf; exact hf.elim
    | succ n2 ih2 =>
      intro S l0 l1 l2 l3 hf H locs ls hH hl
      have hJ45 : ∀ (S : PS) (l0 : Nat) (l1 : Int32) (l2 : Int32), f_X6_unite_J45 post S l0 l1 l2 → ∀ (H : Heap) (locs : List Loc) (ls : Array Slot), p_H D cy S A s H locs → lv_has ls 4 [(0, .ref l0), (1, .int l1), (2, .int l2)] → W p l e rm_X6_unite s m [.ref a0, .int a1, .int a2].toArray below meth c H locs 0 0 (MQ below (va_Qi post (p_Post D cy A) A) [.ref a0, .int a1, .int a2].toArray s 0 0 A) (F0 m 45 ls []) := by
        intro S l0 l1 l2 hf H locs ls hH hl
        refine lv_aload_n hx hb dX6_unite_45 rfl (lv_at hl 0 rfl) ?_
        refine lv_iload_n hx hb dX6_unite_46 rfl (lv_at hl 2 rfl) ?_
        obtain ⟨hb1, hb2, hf⟩ := hf
        refine q_backI0 X hH (q_runV [.int l2] [] X hH hl (c_X6_dismiss l D cy G X.2.2.2.1 S l0 l2 _ _ hf) mf_X6_dismiss mv_X6_dismiss tw_1038 ⟨Nat.le_of_ble_eq_true rfl, Nat.le_of_ble_eq_true rfl⟩ hb1 hb2 (T := TX6) (N := 6) rfl rfl (Nat.le_of_ble_eq_true rfl) dX6_unite_47 ⟨Nat.le_of_ble_eq_true rfl, Nat.le_of_ble_eq_true rfl⟩) (fun v2 S1 hf H locs hH => ?_)
        refine lv_pop hx hb dX6_unite_50 rfl ?_
        refine lv_aload_n hx hb dX6_unite_51 rfl (lv_at hl 0 rfl) ?_
        refine lv_dup hx hb dX6_unite_52 rfl ?_
        refine q_getI (T := TX6) (N := 6) X hH hf iw_X6 rfl (by decide) tw_149 (fun _ h => h) dX6_unite_53 (fun v3 hf => ?_)
        refine lv_iconst (v := 1) hx hb dX6_unite_56 (by decide) ?_
        refine lv_iadd hx hb dX6_unite_57 ?_
        refine q_putV (T := TX6) (N := 6) (ty0 := tyX6) (ty := tyX6 5) X hH hf iw_X6 tyX6_ok nmX6 rfl (by decide) tw_149 (fun _ h => h) rfl (tyX6_ok 5 (by decide)) rfl rfl dX6_unite_58 (fun S4 hf H locs hH => ?_)
        refine lv_iload_n hx hb dX6_unite_61 rfl (lv_at hl 2 rfl) ?_
        refine lv_iload_n hx hb dX6_unite_62 rfl (lv_at hl 1 rfl) ?_
        refine lv_icmp_ge (tgt := 72) hx hb dX6_unite_63 (by decide) (fun c5 => ?_) (fun c5 => ?_)
        · have hf := (if_pos c5).mp hf
          refine lv_iload_n hx hb dX6_unite_72 rfl (lv_at hl 1 rfl) ?_
          exact q_retI X hH hr hlk hf (Nat.zero_le _) (Nat.zero_le _) dX6_unite_73
        · have hf := (if_neg c5).mp hf
          refine lv_iload_n hx hb dX6_unite_66 rfl (lv_at hl 1 rfl) ?_
          refine lv_iconst (v := 1) hx hb dX6_unite_67 (by decide) ?_
          refine lv_isub hx hb dX6_unite_68 ?_
          refine lv_goto (tgt := 73) hx hb dX6_unite_69 (by decide) ?_
          exact q_retI X hH hr hlk hf (Nat.zero_le _) (Nat.zero_le _) dX6_unite_73
      have hJ39 : ∀ (S : PS) (l0 : Nat) (l1 : Int32) (l2 : Int32) (l3 : Int32), f_X6_unite_J39 post (f_X6_unite_L2 post n2) S l0 l1 l2 l3 → ∀ (H : Heap) (locs : List Loc) (ls : Array Slot), p_H D cy S A s H locs → lv_has ls 4 [(0, .ref l0), (1, .int l1), (2, .int l2), (3, .int l3)] → W p l e rm_X6_unite s m [.ref a0, .int a1, .int a2].toArray below meth c H locs 0 0 (MQ below (va_Qi post (p_Post D cy A) A) [.ref a0, .int a1, .int a2].toArray s 0 0 A) (F0 m 39 ls []) := by
        intro S l0 l1 l2 l3 hf H locs ls hH hl
        refine lv_iinc (v := l3 + 1) (lv' := [(3, .int (l3 + 1)), (0, .ref l0), (1, .int l1), (2, .int l2)]) hx hb dX6_unite_39 hl (k := 3) rfl rfl (by decide) rfl (fun ls hl => ?_)
        refine lv_goto (tgt := 2) hx hb dX6_unite_42 (by decide) ?_
        exact ih2 S l0 l1 l2 (l3 + 1) hf H locs ls hH (lv_sub hl [1, 2, 3, 0] rfl)
      refine lv_iload_n hx hb dX6_unite_2 rfl (lv_at hl 3 rfl) ?_
      refine lv_aload_n hx hb dX6_unite_3 rfl (lv_at hl 0 rfl) ?_
      refine q_getI (T := TX6) (N := 6) X hH hf iw_X6 rfl (by decide) tw_139 (fun _ h => h) dX6_unite_4 (fun v1 hf => ?_)
      refine lv_icmp_ge (tgt := 45) hx hb dX6_unite_7 (by decide) (fun c2 => ?_) (fun c2 => ?_)
      · have hf := (if_pos c2).mp hf
        exact hJ45 S l0 l1 l2 hf H locs ls hH (lv_sub hl [0, 1, 2] rfl)
      · have hf := (if_neg c2).mp hf
        refine lv_iload_n hx hb dX6_unite_10 rfl (lv_at hl 3 rfl) ?_
        refine lv_iload_n hx hb dX6_unite_11 rfl (lv_at hl 1 rfl) ?_
        refine lv_icmp_eq (tgt := 39) hx hb dX6_unite_12 (by decide) (fun c3 => ?_) (fun c3 => ?_)
        · have hf := (if_pos c3).mp hf
          exact hJ39 S l0 l1 l2 l3 hf H locs ls hH hl
        · have hf := (if_neg c3).mp hf
          refine lv_iload_n hx hb dX6_unite_15 rfl (lv_at hl 3 rfl) ?_
          refine lv_iload_n hx hb dX6_unite_16 rfl (lv_at hl 2 rfl) ?_
          refine lv_icmp_eq (tgt := 39) hx hb dX6_unite_17 (by decide) (fun c4 => ?_) (fun c4 => ?_)
          · have hf := (if_pos c4).mp hf
            exact hJ39 S l0 l1 l2 l3 hf H locs ls hH hl
          · have hf := (if_neg c4).mp hf
            refine lv_aload_n hx hb dX6_unite_20 rfl (lv_at hl 0 rfl) ?_
            refine lv_iload_n hx hb dX6_unite_21 rfl (lv_at hl 1 rfl) ?_
            refine lv_iload_n hx hb dX6_unite_22 rfl (lv_at hl 3 rfl) ?_
            refine lv_aload_n hx hb dX6_unite_23 rfl (lv_at hl 0 rfl) ?_
            refine lv_iload_n hx hb dX6_unite_24 rfl (lv_at hl 1 rfl) ?_
            refine lv_iload_n hx hb dX6_unite_25 rfl (lv_at hl 3 rfl) ?_
            obtain ⟨hb1, hb2, hf⟩ := hf
            refine q_backI0 X hH (q_runV [.int l1, .int l3] [.int l3, .int l1, .ref l0] X hH hl (c_X6_tie l D cy G X.2.2.2.1 S l0 l1 l3 _ _ hf) mf_X6_tie mv_X6_tie tw_371 ⟨Nat.le_of_ble_eq_true rfl, Nat.le_of_ble_eq_true rfl⟩ hb1 hb2 (T := TX6) (N := 6) rfl rfl (Nat.le_of_ble_eq_true rfl) dX6_unite_26 ⟨Nat.le_of_ble_eq_true rfl, Nat.le_of_ble_eq_true rfl⟩) (fun v6 S5 hf H locs hH => ?_)
            refine lv_aload_n hx hb dX6_unite_29 rfl (lv_at hl 0 rfl) ?_
            refine lv_iload_n hx hb dX6_unite_30 rfl (lv_at hl 2 rfl) ?_
            refine lv_iload_n hx hb dX6_unite_31 rfl (lv_at hl 3 rfl) ?_
            obtain ⟨hb1, hb2, hf⟩ := hf
            refine q_backI0 X hH (q_runV [.int l2, .int l3] [.int v6, .int l3, .int l1, .ref l0] X hH hl (c_X6_tie l D cy G X.2.2.2.1 S5 l0 l2 l3 _ _ hf) mf_X6_tie mv_X6_tie tw_371 ⟨Nat.le_of_ble_eq_true rfl, Nat.le_of_ble_eq_true rfl⟩ hb1 hb2 (T := TX6) (N := 6) rfl rfl (Nat.le_of_ble_eq_true rfl) dX6_unite_32 ⟨Nat.le_of_ble_eq_true rfl, Nat.le_of_ble_eq_true rfl⟩) (fun v8 S7 hf H locs hH => ?_)
            refine lv_iadd hx hb dX6_unite_35 ?_
            obtain ⟨hb1, hb2, hf⟩ := hf
            refine q_backV0 X hH (q_runV [.int l1, .int l3, .int (v6 + v8)] [] X hH hl (c_X6_setTie l D cy G X.2.2.2.1 S7 l0 l1 l3 (v6 + v8) _ _ hf) mf_X6_setTie mv_X6_setTie tw_1026 ⟨Nat.le_of_ble_eq_true rfl, Nat.le_of_ble_eq_true rfl⟩ hb1 hb2 (T := TX6) (N := 6) rfl rfl (Nat.le_of_ble_eq_true rfl) dX6_unite_36 ⟨Nat.le_of_ble_eq_true rfl, Nat.le_of_ble_eq_true rfl⟩) (fun S9 hf H locs hH => ?_)
            exact hJ39 S9 l0 l1 l2 l3 hf H locs ls hH hl
  refine lv_iconst (v := 0) hx hb dX6_unite_0 (by decide) ?_
  refine lv_istore_n (lv' := [(3, .int 0), (0, .ref a0), (1, .int a1), (2, .int a2)]) hx hb dX6_unite_1 rfl hl (by decide) rfl (fun ls hl => ?_)
  exact hL2 4096 S a0 a1 a2 0 hf H locs ls hH (lv_sub hl [1, 2, 3, 0] rfl)
