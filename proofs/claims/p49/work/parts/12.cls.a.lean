-- X0_init
def f_X0_init (S : PS) (a0 : Nat) (bc bs : Nat) (post : PS → Prop) : Prop :=
  nA S 0 256 bc bs fun q1 S2 bc3 bs4 => (
  pV S2 a0 4 0 (.ref q1) fun S5 => (
  pV S5 a0 4 1 (.int 0) fun S6 => (
  post S6)))
abbrev rm_X0_init (mc ms : Nat) : Room := { frames := 1, cells := mc, slots := ms, locals := 20 }
set_option maxHeartbeats 4000000 in
set_option maxRecDepth 100000 in
theorem c_X0_init (l : Launch) (D : va_G) (cy : Nat → ClassId) (G : p_GT) (hG : p_ok G) (S : PS) (a0 : Nat) (mc ms : Nat) (post : PS → Prop) (sz : Nat) (hf : f_X0_init S a0 mc ms post) : p_Mv l D cy G S sz yX0_init (Cond.code yX0_init cX0_init 1 none :: wG) (rm_X0_init mc ms) [.ref a0] mc ms post := by
  refine q_start hG (Qc := fun A => va_Qv post (p_Post D cy A) A) mf_X0_init (Nat.le_of_ble_eq_true rfl) (own := RX0) rfl ?_
  intro p e s m below meth c A X hr hlk hnm ls hl hH
  have hx := X.1.1
  have hb := X.1.2.1
  replace hl : lv_has ls 1 [(0, .ref a0)] := hl
  have main : ∀ (H : Heap) (locs : List Loc) (ls : Array Slot) (cells slots bc bs : Nat), f_X0_init S a0 bc bs post → p_H D cy S A s H locs → lv_has ls 1 [(0, .ref a0)] → cells + bc ≤ mc ∧ slots + bs ≤ ms → W p l e (rm_X0_init mc ms) s m [.ref a0].toArray below meth c H locs cells slots (MQ below (va_Qv post (p_Post D cy A) A) [.ref a0].toArray s mc ms A) (F0 m 0 ls []) := by
    intro H locs ls cells slots bc bs hf hH hl hB
    refine lv_aload_n hx hb dX0_init_0 rfl (lv_at hl 0 rfl) ?_
    refine q_objInit X hl tw_147 tw_64 tw_o ⟨Nat.le_of_ble_eq_true rfl, Nat.le_of_ble_eq_true rfl⟩ (Nat.le_of_ble_eq_true rfl) dX0_init_1 ?_
    refine lv_aload_n hx hb dX0_init_4 rfl (lv_at hl 0 rfl) ?_
    refine lv_sipush (v := 256) hx hb dX0_init_5 (by decide) ?_
    refine q_newa (t := 0) (atype := .int) (ty := .int) X hH hB hf tw_98 rfl rfl (fun C h => by cases h) (fun N cA => rfl) (by decide) dX0_init_8 (fun q1 S2 bc3 bs4 hf H locs cells slots hH hB => ?_)
    refine q_putF (T := TX0) (N := 2) (ty0 := tyX0) (ty := tyX0 0) X hH hf iw_X0 tyX0_ok nmX0 rfl (by decide) tw_148 (fun _ h => h) rfl hnm rfl (tyX0_ok 0 (by decide)) rfl rfl dX0_init_10 (fun S5 hf H locs hH => ?_)
    refine lv_aload_n hx hb dX0_init_13 rfl (lv_at hl 0 rfl) ?_
    refine lv_iconst (v := 0) hx hb dX0_init_14 (by decide) ?_
    refine q_putV (T := TX0) (N := 2) (ty0 := tyX0) (ty := tyX0 1) X hH hf iw_X0 tyX0_ok nmX0 rfl (by decide) tw_149 (fun _ h => h) rfl (tyX0_ok 1 (by decide)) rfl rfl dX0_init_15 (fun S6 hf H locs hH => ?_)
    exact q_retV X hH hr hlk hf (Nat.le_trans (Nat.le_add_right _ _) hB.1) (Nat.le_trans (Nat.le_add_right _ _) hB.2) dX0_init_18
  exact main s.heap [] ls 0 0 mc ms hf hH hl ⟨by omega, by omega⟩
-- X0_leastFeud
def f_X0_leastFeud_L5 (post : Int32 → PS → Prop) : Nat → PS → Nat → Int32 → Int32 → Prop
  | 0, _, _, _, _ => False
  | n + 1, S, l0, l1, l2 =>
  gI S l0 4 1 fun v1 => (
  if v1 ≤ l2 then
    post l1 S
  else
    gR S l0 4 0 fun v3 => (
    lE S v3 fun v4 => (
    if v4 ≤ l2 then
      post l1 S
    else
      gR S l0 4 0 fun v6 => (
      aI S v6 0 l2 fun v7 => (
      (f_X0_leastFeud_L5 post n) S l0 (if v7 < l1 then v7 else l1) (l2 + 1))))))
def f_X0_leastFeud (S : PS) (a0 : Nat) (post : Int32 → PS → Prop) : Prop :=
  f_X0_leastFeud_L5 post 4096 S a0 2147483647 1
abbrev rm_X0_leastFeud : Room := { frames := 1, cells := 0, slots := 0, locals := 21 }
set_option maxHeartbeats 4000000 in
set_option maxRecDepth 100000 in
theorem c_X0_leastFeud (l : Launch) (D : va_G) (cy : Nat → ClassId) (G : p_GT) (hG : p_ok G) (S : PS) (a0 : Nat) (post : Int32 → PS → Prop) (sz : Nat) (hf : f_X0_leastFeud S a0 post) : p_Mi l D cy G S sz yX0_leastFeud (Cond.code yX0_leastFeud cX0_leastFeud 3 (some .int) :: wG) rm_X0_leastFeud [.ref a0] 0 0 post := by
  refine q_start hG (Qc := fun A => va_Qi post (p_Post D cy A) A) mf_X0_leastFeud (Nat.le_of_ble_eq_true rfl) (own := RX0) rfl ?_
  intro p e s m below meth c A X hr hlk hnm ls hl hH
  have hx := X.1.1
  have hb := X.1.2.1
  replace hl : lv_has ls 3 [(0, .ref a0)] := hl
  obtain ⟨H, hHe⟩ : ∃ H, H = s.heap := ⟨_, rfl⟩
  obtain ⟨locs, hlo⟩ : ∃ locs : List Loc, locs = [] := ⟨_, rfl⟩
  rw [← hHe, ← hlo] at hH
  show W p l e rm_X0_leastFeud s m [.ref a0].toArray below meth c s.heap [] 0 0 _ _
  rw [← hHe, ← hlo]
  have hL5 : ∀ (n5 : Nat) (S : PS) (l0 : Nat) (l1 : Int32) (l2 : Int32), f_X0_leastFeud_L5 post n5 S l0 l1 l2 → ∀ (H : Heap) (locs : List Loc) (ls : Array Slot), p_H D cy S A s H locs → lv_has ls 3 [(0, .ref l0), (1, .int l1), (2, .int l2)] → W p l e rm_X0_leastFeud s m [.ref a0].toArray below meth c H locs 0 0 (MQ below (va_Qi post (p_Post D cy A) A) [.ref a0].toArray s 0 0 A) (F0 m 5 ls []) := by
    intro n5
    induction n5 with
    | zero => intro S l0 l1 l2 hf; exact hf.elim
    | succ n5 ih5 =>
      intro S l0 l1 l2 hf H locs ls hH hl
      refine lv_iload_n hx hb dX0_leastFeud_5 rfl (lv_at hl 2 rfl) ?_
      refine lv_aload_n hx hb dX0_leastFeud_6 rfl (lv_at hl 0 rfl) ?_
      refine q_getI (T := TX0) (N := 2) X hH hf iw_X0 rfl (by decide) tw_149 (fun _ h => h) dX0_leastFeud_7 (fun v1 hf => ?_)
      refine lv_icmp_ge (tgt := 39) hx hb dX0_leastFeud_10 (by decide) (fun c2 => ?_) (fun c2 => ?_)
      · have hf := (if_pos c2).mp hf
        refine lv_iload_n hx hb dX0_leastFeud_39 rfl (lv_at hl 1 rfl) ?_
        exact q_retI X hH hr hlk hf (Nat.zero_le _) (Nat.zero_le _) dX0_leastFeud_40
      · have hf := (if_neg c2).mp hf
        refine lv_iload_n hx hb dX0_leastFeud_13 rfl (lv_at hl 2 rfl) ?_
        refine lv_aload_n hx hb dX0_leastFeud_14 rfl (lv_at hl 0 rfl) ?_
        refine q_getR (T := TX0) (N := 2) X hH hf iw_X0 rfl (by decide) tw_148 (fun _ h => h) dX0_leastFeud_15 (fun v3 hf => ?_)
        refine q_alen X hH hf dX0_leastFeud_18 (fun v4 hf => ?_)
        refine lv_icmp_ge (tgt := 39) hx hb dX0_leastFeud_19 (by decide) (fun c5 => ?_) (fun c5 => ?_)
        · have hf := (if_pos c5).mp hf
          refine lv_iload_n hx hb dX0_leastFeud_39 rfl (lv_at hl 1 rfl) ?_
          exact q_retI X hH hr hlk hf (Nat.zero_le _) (Nat.zero_le _) dX0_leastFeud_40
        · have hf := (if_neg c5).mp hf
          refine lv_iload_n hx hb dX0_leastFeud_22 rfl (lv_at hl 1 rfl) ?_
          refine lv_aload_n hx hb dX0_leastFeud_23 rfl (lv_at hl 0 rfl) ?_
          refine q_getR (T := TX0) (N := 2) X hH hf iw_X0 rfl (by decide) tw_148 (fun _ h => h) dX0_leastFeud_24 (fun v6 hf => ?_)
          refine lv_iload_n hx hb dX0_leastFeud_27 rfl (lv_at hl 2 rfl) ?_
          refine q_iald X hH hf dX0_leastFeud_28 (fun v7 hf => ?_)
          refine q_mmin X hl tw_553 tw_496 tw_47 tw_497 ⟨Nat.le_of_ble_eq_true rfl, Nat.le_of_ble_eq_true rfl⟩ (Nat.le_of_ble_eq_true rfl) (Nat.zero_le _) (Nat.zero_le _) dX0_leastFeud_29 ?_
          refine lv_istore_n (lv' := [(1, .int ((if v7 < l1 then v7 else l1))), (0, .ref l0), (2, .int l2)]) hx hb dX0_leastFeud_32 rfl hl (by decide) rfl (fun ls hl => ?_)
          refine lv_iinc (v := l2 + 1) (lv' := [(2, .int (l2 + 1)), (1, .int ((if v7 < l1 then v7 else l1))), (0, .ref l0)]) hx hb dX0_leastFeud_33 hl (k := 2) rfl rfl (by decide) rfl (fun ls hl => ?_)
          refine lv_goto (tgt := 5) hx hb dX0_leastFeud_36 (by decide) ?_
          exact ih5 S l0 (if v7 < l1 then v7 else l1) (l2 + 1) hf H locs ls hH (lv_sub hl [2, 1, 0] rfl)
  refine lv_ldc (v := 2147483647) hx hb X.1.2.2.2.1 (X.1.2.2.2.2 _ tw_551) dX0_leastFeud_0 ?_
  refine lv_istore_n (lv' := [(1, .int 2147483647), (0, .ref a0)]) hx hb dX0_leastFeud_2 rfl hl (by decide) rfl (fun ls hl => ?_)
  refine lv_iconst (v := 1) hx hb dX0_leastFeud_3 (by decide) ?_
  refine lv_istore_n (lv' := [(2, .int 1), (1, .int 2147483647), (0, .ref a0)]) hx hb dX0_leastFeud_4 rfl hl (by decide) rfl (fun ls hl => ?_)
  exact hL5 4096 S a0 2147483647 1 hf H locs ls hH (lv_sub hl [2, 1, 0] rfl)
-- X0_leastCount
def f_X0_leastCount_J39 (post : Int32 → PS → Prop) (g9 : PS → Nat → Int32 → Int32 → Int32 → Prop) (S : PS) (l0 : Nat) (l1 : Int32) (l2 : Int32) (l3 : Int32) : Prop :=
  g9 S l0 l1 l2 (l3 + 1)
def f_X0_leastCount_L9 (post : Int32 → PS → Prop) : Nat → PS → Nat → Int32 → Int32 → Int32 → Prop
  | 0, _, _, _, _, _ => False
  | n + 1, S, l0, l1, l2, l3 =>
  gI S l0 4 1 fun v1 => (
  if v1 ≤ l3 then
    post l2 S
  else
    gR S l0 4 0 fun v3 => (
    lE S v3 fun v4 => (
    if v4 ≤ l3 then
      post l2 S
    else
      gR S l0 4 0 fun v6 => (
      aI S v6 0 l3 fun v7 => (
      if v7 = l1 then
        f_X0_leastCount_J39 post (f_X0_leastCount_L9 post n) S l0 l1 (l2 + 1) l3
      else
        f_X0_leastCount_J39 post (f_X0_leastCount_L9 post n) S l0 l1 l2 l3)))))
def f_X0_leastCount (S : PS) (a0 : Nat) (post : Int32 → PS → Prop) : Prop :=
  isO S a0 4 (
  f_X0_leastFeud S a0 fun v2 S1 => (
  f_X0_leastCount_L9 post 4096 S1 a0 v2 0 1))
abbrev rm_X0_leastCount : Room := { frames := 2, cells := 0, slots := 0, locals := 43 }
set_option maxHeartbeats 4000000 in
set_option maxRecDepth 100000 in
theorem c_X0_leastCount (l : Launch) (D : va_G) (cy : Nat → ClassId) (G : p_GT) (hG : p_ok G) (S : PS) (a0 : Nat) (post : Int32 → PS → Prop) (sz : Nat) (hf : f_X0_leastCount S a0 post) : p_Mi l D cy G S sz yX0_leastCount (Cond.code yX0_leastCount cX0_leastCount 4 (some .int) :: wG) rm_X0_leastCount [.ref a0] 0 0 post := by
  refine q_start hG (Qc := fun A => va_Qi post (p_Post D cy A) A) mf_X0_leastCount (Nat.le_of_ble_eq_true rfl) (own := RX0) rfl ?_
  intro p e s m below meth c A X hr hlk hnm ls hl hH
  have hx := X.1.1
  have hb := X.1.2.1
  replace hl : lv_has ls 4 [(0, .ref a0)] := hl
  obtain ⟨H, hHe⟩ : ∃ H, H = s.heap := ⟨_, rfl⟩
  obtain ⟨locs, hlo⟩ : ∃ locs : List Loc, locs = [] := ⟨_, rfl⟩
  rw [← hHe, ← hlo] at hH
  show W p l e rm_X0_leastCount s m [.ref a0].toArray below meth c s.heap [] 0 0 _ _
  rw [← hHe, ← hlo]
  have hL9 : ∀ (n9 : Nat) (S : PS) (l0 : Nat) (l1 : Int32) (l2 : Int32) (l3 : Int32), f_X0_leastCount_L9 post n9 S l0 l1 l2 l3 → ∀ (H : Heap) (locs : List Loc) (ls : Array Slot), p_H D cy S A s H locs → lv_has ls 4 [(0, .ref l0), (1, .int l1), (2, .int l2), (3, .int l3)] → W p l e rm_X0_leastCount s m [.ref a0].toArray below meth c H locs 0 0 (MQ below (va_Qi post (p_Post D cy A) A) [.ref a0].toArray s 0 0 A) (F0 m 9 ls []) := by
    intro n9
    induction n9 with
    | zero => intro S l0 l1 l2 l3 hf; exact hf.elim
    | succ n9 ih9 =>
      intro S l0 l1 l2 l3 hf H locs ls hH hl
      have hJ39 : ∀ (S : PS) (l0 : Nat) (l1 : Int32) (l2 : Int32) (l3 : Int32), f_X0_leastCount_J39 post (f_X0_leastCount_L9 post n9) S l0 l1 l2 l3 → ∀ (H : Heap) (locs : List Loc) (ls : Array Slot), p_H D cy S A s H locs → lv_has ls 4 [(0, .ref l0), (1, .int l1), (2, .int l2), (3, .int l3)] → W p l e rm_X0_leastCount s m [.ref a0].toArray below meth c H locs 0 0 (MQ below (va_Qi post (p_Post D cy A) A) [.ref a0].toArray s 0 0 A) (F0 m 39 ls []) := by
        intro S l0 l1 l2 l3 hf H locs ls hH hl
        refine lv_iinc (v := l3 + 1) (lv' := [(3, .int (l3 + 1)), (0, .ref l0), (1, .int l1), (2, .int l2)]) hx hb dX0_leastCount_39 hl (k := 3) rfl rfl (by decide) rfl (fun ls hl => ?_)
        refine lv_goto (tgt := 9) hx hb dX0_leastCount_42 (by decide) ?_
        exact ih9 S l0 l1 l2 (l3 + 1) hf H locs ls hH (lv_sub hl [1, 2, 3, 0] rfl)
      refine lv_iload_n hx hb dX0_leastCount_9 rfl (lv_at hl 3 rfl) ?_
      refine lv_aload_n hx hb dX0_leastCount_10 rfl (lv_at hl 0 rfl) ?_
      refine q_getI (T := TX0) (N := 2) X hH hf iw_X0 rfl (by decide) tw_149 (fun _ h => h) dX0_leastCount_11 (fun v1 hf => ?_)
      refine lv_icmp_ge (tgt := 45) hx hb dX0_leastCount_14 (by decide) (fun c2 => ?_) (fun c2 => ?_)
      · have hf := (if_pos c2).mp hf
        refine lv_iload_n hx hb dX0_leastCount_45 rfl (lv_at hl 2 rfl) ?_
        exact q_retI X hH hr hlk hf (Nat.zero_le _) (Nat.zero_le _) dX0_leastCount_46
      · have hf := (if_neg c2).mp hf
        refine lv_iload_n hx hb dX0_leastCount_17 rfl (lv_at hl 3 rfl) ?_
        refine lv_aload_n hx hb dX0_leastCount_18 rfl (lv_at hl 0 rfl) ?_
        refine q_getR (T := TX0) (N := 2) X hH hf iw_X0 rfl (by decide) tw_148 (fun _ h => h) dX0_leastCount_19 (fun v3 hf => ?_)
        refine q_alen X hH hf dX0_leastCount_22 (fun v4 hf => ?_)
        refine lv_icmp_ge (tgt := 45) hx hb dX0_leastCount_23 (by decide) (fun c5 => ?_) (fun c5 => ?_)
        · have hf := (if_pos c5).mp hf
          refine lv_iload_n hx hb dX0_leastCount_45 rfl (lv_at hl 2 rfl) ?_
          exact q_retI X hH hr hlk hf (Nat.zero_le _) (Nat.zero_le _) dX0_leastCount_46
        · have hf := (if_neg c5).mp hf
          refine lv_aload_n hx hb dX0_leastCount_26 rfl (lv_at hl 0 rfl) ?_
          refine q_getR (T := TX0) (N := 2) X hH hf iw_X0 rfl (by decide) tw_148 (fun _ h => h) dX0_leastCount_27 (fun v6 hf => ?_)
          refine lv_iload_n hx hb dX0_leastCount_30 rfl (lv_at hl 3 rfl) ?_
          refine q_iald X hH hf dX0_leastCount_31 (fun v7 hf => ?_)
          refine lv_iload_n hx hb dX0_leastCount_32 rfl (lv_at hl 1 rfl) ?_
          refine lv_icmp_ne (tgt := 39) hx hb dX0_leastCount_33 (by decide) (fun c8 => ?_) (fun c8 => ?_)
          · have hf := (if_neg c8).mp hf
            exact hJ39 S l0 l1 l2 l3 hf H locs ls hH hl
          · have hf := (if_pos c8).mp hf
            refine lv_iinc (v := l2 + 1) (lv' := [(2, .int (l2 + 1)), (0, .ref l0), (1, .int l1), (3, .int l3)]) hx hb dX0_leastCount_36 hl (k := 2) rfl rfl (by decide) rfl (fun ls hl => ?_)
            exact hJ39 S l0 l1 (l2 + 1) l3 hf H locs ls hH (lv_sub hl [1, 2, 0, 3] rfl)
  refine lv_aload_n hx hb dX0_leastCount_0 rfl (lv_at hl 0 rfl) ?_
  obtain ⟨hb1, hb2, hf⟩ := hf
  refine q_backI0 X hH (q_runV [] [] X hH hl (c_X0_leastFeud l D cy G X.2.2.2.1 S a0 _ _ hf) mf_X0_leastFeud mv_X0_leastFeud tw_937 ⟨Nat.le_of_ble_eq_true rfl, Nat.le_of_ble_eq_true rfl⟩ hb1 hb2 (T := TX0) (N := 2) rfl rfl (Nat.le_of_ble_eq_true rfl) dX0_leastCount_1 ⟨Nat.le_of_ble_eq_true rfl, Nat.le_of_ble_eq_true rfl⟩) (fun v2 S1 hf H locs hH => ?_)
  refine lv_istore_n (lv' := [(1, .int v2), (0, .ref a0)]) hx hb dX0_leastCount_4 rfl hl (by decide) rfl (fun ls hl => ?_)
  refine lv_iconst (v := 0) hx hb dX0_leastCount_5 (by decide) ?_
  refine lv_istore_n (lv' := [(2, .int 0), (1, .int v2), (0, .ref a0)]) hx hb dX0_leastCount_6 rfl hl (by decide) rfl (fun ls hl => ?_)
  refine lv_iconst (v := 1) hx hb dX0_leastCount_7 (by decide) ?_
  refine lv_istore_n (lv' := [(3, .int 1), (2, .int 0), (1, .int v2), (0, .ref a0)]) hx hb dX0_leastCount_8 rfl hl (by decide) rfl (fun ls hl => ?_)
  exact hL9 4096 S1 a0 v2 0 1 hf H locs ls hH (lv_sub hl [3, 2, 1, 0] rfl)
-- X1_init
def f_X1_init (S : PS) (a0 : Nat) (bc bs : Nat) (post : PS → Prop) : Prop :=
  nA S 0 81 bc bs fun q1 S2 bc3 bs4 => (
  pV S2 a0 5 0 (.ref q1) fun S5 => (
  nA S5 0 9 bc3 bs4 fun q6 S7 bc8 bs9 => (
  pV S7 a0 5 1 (.ref q6) fun S10 => (
  nA S10 0 9 bc8 bs9 fun q11 S12 bc13 bs14 => (
  pV S12 a0 5 2 (.ref q11) fun S15 => (
  post S15))))))
abbrev rm_X1_init (mc ms : Nat) : Room := { frames := 1, cells := mc, slots := ms, locals := 20 }
set_option maxHeartbeats 4000000 in
set_option maxRecDepth 100000 in
theorem c_X1_init (l : Launch) (D : va_G) (cy : Nat → ClassId) (G : p_GT) (hG : p_ok G) (S : PS) (a0 : Nat) (mc ms : Nat) (post : PS → Prop) (sz : Nat) (hf : f_X1_init S a0 mc ms post) : p_Mv l D cy G S sz yX1_init (Cond.code yX1_init cX1_init 1 none :: wG) (rm_X1_init mc ms) [.ref a0] mc ms post := by
  refine q_start hG (Qc := fun A => va_Qv post (p_Post D cy A) A) mf_X1_init (Nat.le_of_ble_eq_true rfl) (own := RX1) rfl ?_
  intro p e s m below meth c A X hr hlk hnm ls hl hH
  have hx := X.1.1
  have hb := X.1.2.1
  replace hl : lv_has ls 1 [(0, .ref a0)] := hl
  have main : ∀ (H : Heap) (locs : List Loc) (ls : Array Slot) (cells slots bc bs : Nat), f_X1_init S a0 bc bs post → p_H D cy S A s H locs → lv_has ls 1 [(0, .ref a0)] → cells + bc ≤ mc ∧ slots + bs ≤ ms → W p l e (rm_X1_init mc ms) s m [.ref a0].toArray below meth c H locs cells slots (MQ below (va_Qv post (p_Post D cy A) A) [.ref a0].toArray s mc ms A) (F0 m 0 ls []) := by
    intro H locs ls cells slots bc bs hf hH hl hB
    refine lv_aload_n hx hb dX1_init_0 rfl (lv_at hl 0 rfl) ?_
    refine q_objInit X hl tw_160 tw_64 tw_o ⟨Nat.le_of_ble_eq_true rfl, Nat.le_of_ble_eq_true rfl⟩ (Nat.le_of_ble_eq_true rfl) dX1_init_1 ?_
    refine lv_aload_n hx hb dX1_init_4 rfl (lv_at hl 0 rfl) ?_
    refine lv_bipush (v := 81) hx hb dX1_init_5 (by decide) ?_
    refine q_newa (t := 0) (atype := .int) (ty := .int) X hH hB hf tw_98 rfl rfl (fun C h => by cases h) (fun N cA => rfl) (by decide) dX1_init_7 (fun q1 S2 bc3 bs4 hf H locs cells slots hH hB => ?_)
    refine q_putF (T := TX1) (N := 3) (ty0 := tyX1) (ty := tyX1 0) X hH hf iw_X1 tyX1_ok nmX1 rfl (by decide) tw_161 (fun _ h => h) rfl hnm rfl (tyX1_ok 0 (by decide)) rfl rfl dX1_init_9 (fun S5 hf H locs hH => ?_)
    refine lv_aload_n hx hb dX1_init_12 rfl (lv_at hl 0 rfl) ?_
    refine lv_bipush (v := 9) hx hb dX1_init_13 (by decide) ?_
    refine q_newa (t := 0) (atype := .int) (ty := .int) X hH hB hf tw_98 rfl rfl (fun C h => by cases h) (fun N cA => rfl) (by decide) dX1_init_15 (fun q6 S7 bc8 bs9 hf H locs cells slots hH hB => ?_)
    refine q_putF (T := TX1) (N := 3) (ty0 := tyX1) (ty := tyX1 1) X hH hf iw_X1 tyX1_ok nmX1 rfl (by decide) tw_162 (fun _ h => h) rfl hnm rfl (tyX1_ok 1 (by decide)) rfl rfl dX1_init_17 (fun S10 hf H locs hH => ?_)
    refine lv_aload_n hx hb dX1_init_20 rfl (lv_at hl 0 rfl) ?_
    refine lv_bipush (v := 9) hx hb dX1_init_21 (by decide) ?_
    refine q_newa (t := 0) (atype := .int) (ty := .int) X hH hB hf tw_98 rfl rfl (fun C h => by cases h) (fun N cA => rfl) (by decide) dX1_init_23 (fun q11 S12 bc13 bs14 hf H locs cells slots hH hB => ?_)
    refine q_putF (T := TX1) (N := 3) (ty0 := tyX1) (ty := tyX1 2) X hH hf iw_X1 tyX1_ok nmX1 rfl (by decide) tw_163 (fun _ h => h) rfl hnm rfl (tyX1_ok 2 (by decide)) rfl rfl dX1_init_25 (fun S15 hf H locs hH => ?_)
    exact q_retV X hH hr hlk hf (Nat.le_trans (Nat.le_add_right _ _) hB.1) (Nat.le_trans (Nat.le_add_right _ _) hB.2) dX1_init_28
  exact main s.heap [] ls 0 0 mc ms hf hH hl ⟨by omega, by omega⟩
-- X1_isThere
def f_X1_isThere (S : PS) (a0 : Nat) (a1 : Int32) (post : Int32 → PS → Prop) : Prop :=
  if a1 < 0 then
    nZ .boolean 0 (post 0 S)
  else
    if 9 ≤ a1 then
      nZ .boolean 0 (post 0 S)
    else
      nZ .boolean 1 (post 1 S)
abbrev rm_X1_isThere : Room := { frames := 0, cells := 0, slots := 0, locals := 0 }
set_option maxHeartbeats 4000000 in
set_option maxRecDepth 100000 in
theorem c_X1_isThere (l : Launch) (D : va_G) (cy : Nat → ClassId) (G : p_GT) (hG : p_ok G) (S : PS) (a0 : Nat) (a1 : Int32) (post : Int32 → PS → Prop) (sz : Nat) (hf : f_X1_isThere S a0 a1 post) : p_Mi l D cy G S sz yX1_isThere (Cond.code yX1_isThere cX1_isThere 2 (some .boolean) :: wG) rm_X1_isThere [.ref a0, .int a1] 0 0 post := by
  refine q_start hG (Qc := fun A => va_Qi post (p_Post D cy A) A) mf_X1_isThere (Nat.le_of_ble_eq_true rfl) (own := RX1) rfl ?_
  intro p e s m below meth c A X hr hlk hnm ls hl hH
  have hx := X.1.1
  have hb := X.1.2.1
  replace hl : lv_has ls 2 [(0, .ref a0), (1, .int a1)] := hl
  obtain ⟨H, hHe⟩ : ∃ H, H = s.heap := ⟨_, rfl⟩
  obtain ⟨locs, hlo⟩ : ∃ locs : List Loc, locs = [] := ⟨_, rfl⟩
  rw [← hHe, ← hlo] at hH
  show W p l e rm_X1_isThere s m [.ref a0, .int a1].toArray below meth c s.heap [] 0 0 _ _
  rw [← hHe, ← hlo]
  refine lv_iload_n hx hb dX1_isThere_0 rfl (lv_at hl 1 rfl) ?_
  refine lv_if_lt (tgt := 14) hx hb dX1_isThere_1 (by decide) (fun c1 => ?_) (fun c1 => ?_)
  · have hf := (if_pos c1).mp hf
    refine lv_iconst (v := 0) hx hb dX1_isThere_14 (by decide) ?_
    exact q_retZ X hH hr hlk hf (Nat.zero_le _) (Nat.zero_le _) dX1_isThere_15
  · have hf := (if_neg c1).mp hf
    refine lv_iload_n hx hb dX1_isThere_4 rfl (lv_at hl 1 rfl) ?_
    refine lv_bipush (v := 9) hx hb dX1_isThere_5 (by decide) ?_
    refine lv_icmp_ge (tgt := 14) hx hb dX1_isThere_7 (by decide) (fun c2 => ?_) (fun c2 => ?_)
    · have hf := (if_pos c2).mp hf
      refine lv_iconst (v := 0) hx hb dX1_isThere_14 (by decide) ?_
      exact q_retZ X hH hr hlk hf (Nat.zero_le _) (Nat.zero_le _) dX1_isThere_15
    · have hf := (if_neg c2).mp hf
      refine lv_iconst (v := 1) hx hb dX1_isThere_10 (by decide) ?_
      refine lv_goto (tgt := 15) hx hb dX1_isThere_11 (by decide) ?_
      exact q_retZ X hH hr hlk hf (Nat.zero_le _) (Nat.zero_le _) dX1_isThere_15
-- X2_init
def f_X2_init (S : PS) (a0 : Nat) (bc bs : Nat) (post : PS → Prop) : Prop :=
  nQ S 8 bc bs fun q1 S2 bc3 bs4 => (
  pV S2 a0 6 0 (.ref q1) fun S5 => (
  pV S5 a0 6 1 (.int 0) fun S6 => (
  pV S6 a0 6 2 (.int 0) fun S7 => (
  post S7))))
abbrev rm_X2_init (mc ms : Nat) : Room := { frames := 1, cells := mc, slots := ms, locals := 20 }
set_option maxHeartbeats 4000000 in
set_option maxRecDepth 100000 in
theorem c_X2_init (l : Launch) (D : va_G) (cy : Nat → ClassId) (G : p_GT) (hG : p_ok G) (hGO : ∀ (A : Nat → Prop) (U : State) (H : Heap), G A U H → va_AO "VillageFeud$Village" U) (S : PS) (a0 : Nat) (mc ms : Nat) (post : PS → Prop) (sz : Nat) (hf : f_X2_init S a0 mc ms post) : p_Mv l D cy G S sz yX2_init (Cond.code yX2_init cX2_init 1 none :: wG) (rm_X2_init mc ms) [.ref a0] mc ms post := by
  refine q_start hG (Qc := fun A => va_Qv post (p_Post D cy A) A) mf_X2_init (Nat.le_of_ble_eq_true rfl) (own := RX2) rfl ?_
  intro p e s m below meth c A X hr hlk hnm ls hl hH
  have hx := X.1.1
  have hb := X.1.2.1
  replace hl : lv_has ls 1 [(0, .ref a0)] := hl
  have main : ∀ (H : Heap) (locs : List Loc) (ls : Array Slot) (cells slots bc bs : Nat), f_X2_init S a0 bc bs post → p_H D cy S A s H locs → lv_has ls 1 [(0, .ref a0)] → cells + bc ≤ mc ∧ slots + bs ≤ ms → W p l e (rm_X2_init mc ms) s m [.ref a0].toArray below meth c H locs cells slots (MQ below (va_Qv post (p_Post D cy A) A) [.ref a0].toArray s mc ms A) (F0 m 0 ls []) := by
    intro H locs ls cells slots bc bs hf hH hl hB
    refine lv_aload_n hx hb dX2_init_0 rfl (lv_at hl 0 rfl) ?_
    refine q_objInit X hl tw_104 tw_64 tw_o ⟨Nat.le_of_ble_eq_true rfl, Nat.le_of_ble_eq_true rfl⟩ (Nat.le_of_ble_eq_true rfl) dX2_init_1 ?_
    refine lv_aload_n hx hb dX2_init_4 rfl (lv_at hl 0 rfl) ?_
    refine lv_bipush (v := 8) hx hb dX2_init_5 (by decide) ?_
    refine q_newq X hH hB hf tw_105 (hGO _ _ _ X.2.2.2.2) dX2_init_7 (fun q1 S2 bc3 bs4 hf H locs cells slots hH hB => ?_)
    refine q_putF (T := TX2) (N := 3) (ty0 := tyX2) (ty := tyX2 0) X hH hf iw_X2 tyX2_ok nmX2 rfl (by decide) tw_107 (fun _ h => h) rfl hnm rfl (tyX2_ok 0 (by decide)) rfl rfl dX2_init_10 (fun S5 hf H locs hH => ?_)
    refine lv_aload_n hx hb dX2_init_13 rfl (lv_at hl 0 rfl) ?_
    refine lv_iconst (v := 0) hx hb dX2_init_14 (by decide) ?_
    refine q_putV (T := TX2) (N := 3) (ty0 := tyX2) (ty := tyX2 1) X hH hf iw_X2 tyX2_ok nmX2 rfl (by decide) tw_108 (fun _ h => h) rfl (tyX2_ok 1 (by decide)) rfl rfl dX2_init_15 (fun S6 hf H locs hH => ?_)
    refine lv_aload_n hx hb dX2_init_18 rfl (lv_at hl 0 rfl) ?_
    refine lv_iconst (v := 0) hx hb dX2_init_19 (by decide) ?_
    refine q_putV (T := TX2) (N := 3) (ty0 := tyX2) (ty := tyX2 2) X hH hf iw_X2 tyX2_ok nmX2 rfl (by decide) tw_109 (fun _ h => h) rfl (tyX2_ok 2 (by decide)) rfl rfl dX2_init_20 (fun S7 hf H locs hH => ?_)
    exact q_retV X hH hr hlk hf (Nat.le_trans (Nat.le_add_right _ _) hB.1) (Nat.le_trans (Nat.le_add_right _ _) hB.2) dX2_init_23
  exact main s.heap [] ls 0 0 mc ms hf hH hl ⟨by omega, by omega⟩
-- X2_count
def f_X2_count (S : PS) (a0 : Nat) (post : Int32 → PS → Prop) : Prop :=
  gI S a0 6 2 fun v1 => (
  post v1 S)
abbrev rm_X2_count : Room := { frames := 0, cells := 0, slots := 0, locals := 0 }
set_option maxHeartbeats 4000000 in
set_option maxRecDepth 100000 in
theorem c_X2_count (l : Launch) (D : va_G) (cy : Nat → ClassId) (G : p_GT) (hG : p_ok G) (S : PS) (a0 : Nat) (post : Int32 → PS → Prop) (sz : Nat) (hf : f_X2_count S a0 post) : p_Mi l D cy G S sz yX2_count (Cond.code yX2_count cX2_count 1 (some .int) :: wG) rm_X2_count [.ref a0] 0 0 post := by
  refine q_start hG (Qc := fun A => va_Qi post (p_Post D cy A) A) mf_X2_count (Nat.le_of_ble_eq_true rfl) (own := RX2) rfl ?_
  intro p e s m below meth c A X hr hlk hnm ls hl hH
  have hx := X.1.1
  have hb := X.1.2.1
  replace hl : lv_has ls 1 [(0, .ref a0)] := hl
  obtain ⟨H, hHe⟩ : ∃ H, H = s.heap := ⟨_, rfl⟩
  obtain ⟨locs, hlo⟩ : ∃ locs : List Loc, locs = [] := ⟨_, rfl⟩
  rw [← hHe, ← hlo] at hH
  show W p l e rm_X2_count s m [.ref a0].toArray below meth c s.heap [] 0 0 _ _
  rw [← hHe, ← hlo]
  refine lv_aload_n hx hb dX2_count_0 rfl (lv_at hl 0 rfl) ?_
  refine q_getI (T := TX2) (N := 3) X hH hf iw_X2 rfl (by decide) tw_109 (fun _ h => h) dX2_count_1 (fun v1 hf => ?_)
  exact q_retI X hH hr hlk hf (Nat.zero_le _) (Nat.zero_le _) dX2_count_4
-- X3_init
def f_X3_init (S : PS) (a0 : Nat) (bc bs : Nat) (post : PS → Prop) : Prop :=
  nA S 0 72 bc bs fun q1 S2 bc3 bs4 => (
  pV S2 a0 7 0 (.ref q1) fun S5 => (
  nA S5 0 72 bc3 bs4 fun q6 S7 bc8 bs9 => (
  pV S7 a0 7 1 (.ref q6) fun S10 => (
  nA S10 0 81 bc8 bs9 fun q11 S12 bc13 bs14 => (
  pV S12 a0 7 2 (.ref q11) fun S15 => (
  nA S15 0 9 bc13 bs14 fun q16 S17 bc18 bs19 => (
  pV S17 a0 7 3 (.ref q16) fun S20 => (
  nA S20 0 9 bc18 bs19 fun q21 S22 bc23 bs24 => (
  pV S22 a0 7 4 (.ref q21) fun S25 => (
  pV S25 a0 7 5 (.int 0) fun S26 => (
  post S26)))))))))))
abbrev rm_X3_init (mc ms : Nat) : Room := { frames := 1, cells := mc, slots := ms, locals := 20 }
set_option maxHeartbeats 4000000 in
set_option maxRecDepth 100000 in
theorem c_X3_init (l : Launch) (D : va_G) (cy : Nat → ClassId) (G : p_GT) (hG : p_ok G) (S : PS) (a0 : Nat) (mc ms : Nat) (post : PS → Prop) (sz : Nat) (hf : f_X3_init S a0 mc ms post) : p_Mv l D cy G S sz yX3_init (Cond.code yX3_init cX3_init 1 none :: wG) (rm_X3_init mc ms) [.ref a0] mc ms post := by
  refine q_start hG (Qc := fun A => va_Qv post (p_Post D cy A) A) mf_X3_init (Nat.le_of_ble_eq_true rfl) (own := RX3) rfl ?_
  intro p e s m below meth c A X hr hlk hnm ls hl hH
  have hx := X.1.1
  have hb := X.1.2.1
  replace hl : lv_has ls 1 [(0, .ref a0)] := hl
  have main : ∀ (H : Heap) (locs : List Loc) (ls : Array Slot) (cells slots bc bs : Nat), f_X3_init S a0 bc bs post → p_H D cy S A s H locs → lv_has ls 1 [(0, .ref a0)] → cells + bc ≤ mc ∧ slots + bs ≤ ms → W p l e (rm_X3_init mc ms) s m [.ref a0].toArray below meth c H locs cells slots (MQ below (va_Qv post (p_Post D cy A) A) [.ref a0].toArray s mc ms A) (F0 m 0 ls []) := by
    intro H locs ls cells slots bc bs hf hH hl hB
    refine lv_aload_n hx hb dX3_init_0 rfl (lv_at hl 0 rfl) ?_
    refine q_objInit X hl tw_122 tw_64 tw_o ⟨Nat.le_of_ble_eq_true rfl, Nat.le_of_ble_eq_true rfl⟩ (Nat.le_of_ble_eq_true rfl) dX3_init_1 ?_
    refine lv_aload_n hx hb dX3_init_4 rfl (lv_at hl 0 rfl) ?_
    refine lv_bipush (v := 72) hx hb dX3_init_5 (by decide) ?_
    refine q_newa (t := 0) (atype := .int) (ty := .int) X hH hB hf tw_98 rfl rfl (fun C h => by cases h) (fun N cA => rfl) (by decide) dX3_init_7 (fun q1 S2 bc3 bs4 hf H locs cells slots hH hB => ?_)
    refine q_putF (T := TX3) (N := 6) (ty0 := tyX3) (ty := tyX3 0) X hH hf iw_X3 tyX3_ok nmX3 rfl (by decide) tw_123 (fun _ h => h) rfl hnm rfl (tyX3_ok 0 (by decide)) rfl rfl dX3_init_9 (fun S5 hf H locs hH => ?_)
    refine lv_aload_n hx hb dX3_init_12 rfl (lv_at hl 0 rfl) ?_
    refine lv_bipush (v := 72) hx hb dX3_init_13 (by decide) ?_
    refine q_newa (t := 0) (atype := .int) (ty := .int) X hH hB hf tw_98 rfl rfl (fun C h => by cases h) (fun N cA => rfl) (by decide) dX3_init_15 (fun q6 S7 bc8 bs9 hf H locs cells slots hH hB => ?_)
    refine q_putF (T := TX3) (N := 6) (ty0 := tyX3) (ty := tyX3 1) X hH hf iw_X3 tyX3_ok nmX3 rfl (by decide) tw_124 (fun _ h => h) rfl hnm rfl (tyX3_ok 1 (by decide)) rfl rfl dX3_init_17 (fun S10 hf H locs hH => ?_)
    refine lv_aload_n hx hb dX3_init_20 rfl (lv_at hl 0 rfl) ?_
    refine lv_bipush (v := 81) hx hb dX3_init_21 (by decide) ?_
    refine q_newa (t := 0) (atype := .int) (ty := .int) X hH hB hf tw_98 rfl rfl (fun C h => by cases h) (fun N cA => rfl) (by decide) dX3_init_23 (fun q11 S12 bc13 bs14 hf H locs cells slots hH hB => ?_)
    refine q_putF (T := TX3) (N := 6) (ty0 := tyX3) (ty := tyX3 2) X hH hf iw_X3 tyX3_ok nmX3 rfl (by decide) tw_125 (fun _ h => h) rfl hnm rfl (tyX3_ok 2 (by decide)) rfl rfl dX3_init_25 (fun S15 hf H locs hH => ?_)
    refine lv_aload_n hx hb dX3_init_28 rfl (lv_at hl 0 rfl) ?_
    refine lv_bipush (v := 9) hx hb dX3_init_29 (by decide) ?_
    refine q_newa (t := 0) (atype := .int) (ty := .int) X hH hB hf tw_98 rfl rfl (fun C h => by cases h) (fun N cA => rfl) (by decide) dX3_init_31 (fun q16 S17 bc18 bs19 hf H locs cells slots hH hB => ?_)
    refine q_putF (T := TX3) (N := 6) (ty0 := tyX3) (ty := tyX3 3) X hH hf iw_X3 tyX3_ok nmX3 rfl (by decide) tw_126 (fun _ h => h) rfl hnm rfl (tyX3_ok 3 (by decide)) rfl rfl dX3_init_33 (fun S20 hf H locs hH => ?_)
    refine lv_aload_n hx hb dX3_init_36 rfl (lv_at hl 0 rfl) ?_
    refine lv_bipush (v := 9) hx hb dX3_init_37 (by decide) ?_
    refine q_newa (t := 0) (atype := .int) (ty := .int) X hH hB hf tw_98 rfl rfl (fun C h => by cases h) (fun N cA => rfl) (by decide) dX3_init_39 (fun q21 S22 bc23 bs24 hf H locs cells slots hH hB => ?_)
    refine q_putF (T := TX3) (N := 6) (ty0 := tyX3) (ty := tyX3 4) X hH hf iw_X3 tyX3_ok nmX3 rfl (by decide) tw_127 (fun _ h => h) rfl hnm rfl (tyX3_ok 4 (by decide)) rfl rfl dX3_init_41 (fun S25 hf H locs hH => ?_)
    refine lv_aload_n hx hb dX3_init_44 rfl (lv_at hl 0 rfl) ?_
    refine lv_iconst (v := 0) hx hb dX3_init_45 (by decide) ?_
    refine q_putV (T := TX3) (N := 6) (ty0 := tyX3) (ty := tyX3 5) X hH hf iw_X3 tyX3_ok nmX3 rfl (by decide) tw_128 (fun _ h => h) rfl (tyX3_ok 5 (by decide)) rfl rfl dX3_init_46 (fun S26 hf H locs hH => ?_)
    exact q_retV X hH hr hlk hf (Nat.le_trans (Nat.le_add_right _ _) hB.1) (Nat.le_trans (Nat.le_add_right _ _) hB.2) dX3_init_49
  exact main s.heap [] ls 0 0 mc ms hf hH hl ⟨by omega, by omega⟩
-- X3_groupsIn
def f_X3_groupsIn (S : PS) (a0 : Nat) (a1 : Int32) (post : Int32 → PS → Prop) : Prop :=
  gI S a0 7 5 fun v1 => (
  post (v1 - a1) S)
abbrev rm_X3_groupsIn : Room := { frames := 0, cells := 0, slots := 0, locals := 0 }
set_option maxHeartbeats 4000000 in
set_option maxRecDepth 100000 in
theorem c_X3_groupsIn (l : Launch) (D : va_G) (cy : Nat → ClassId) (G : p_GT) (hG : p_ok G) (S : PS) (a0 : Nat) (a1 : Int32) (post : Int32 → PS → Prop) (sz : Nat) (hf : f_X3_groupsIn S a0 a1 post) : p_Mi l D cy G S sz yX3_groupsIn (Cond.code yX3_groupsIn cX3_groupsIn 2 (some .int) :: wG) rm_X3_groupsIn [.ref a0, .int a1] 0 0 post := by
  refine q_start hG (Qc := fun A => va_Qi post (p_Post D cy A) A) mf_X3_groupsIn (Nat.le_of_ble_eq_true rfl) (own := RX3) rfl ?_
  intro p e s m below meth c A X hr hlk hnm ls hl hH
  have hx := X.1.1
  have hb := X.1.2.1
  replace hl : lv_has ls 2 [(0, .ref a0), (1, .int a1)] := hl
  obtain ⟨H, hHe⟩ : ∃ H, H = s.heap := ⟨_, rfl⟩
  obtain ⟨locs, hlo⟩ : ∃ locs : List Loc, locs = [] := ⟨_, rfl⟩
  rw [← hHe, ← hlo] at hH
  show W p l e rm_X3_groupsIn s m [.ref a0, .int a1].toArray below meth c s.heap [] 0 0 _ _
  rw [← hHe, ← hlo]
  refine lv_aload_n hx hb dX3_groupsIn_0 rfl (lv_at hl 0 rfl) ?_
  refine q_getI (T := TX3) (N := 6) X hH hf iw_X3 rfl (by decide) tw_128 (fun _ h => h) dX3_groupsIn_1 (fun v1 hf => ?_)
  refine lv_iload_n hx hb dX3_groupsIn_4 rfl (lv_at hl 1 rfl) ?_
  refine lv_isub hx hb dX3_groupsIn_5 ?_
  exact q_retI X hH hr hlk hf (Nat.zero_le _) (Nat.zero_le _) dX3_groupsIn_6
-- X3_hasPlace
def f_X3_hasPlace (S : PS) (a0 : Nat) (a1 : Int32) (a2 : Int32) (post : Int32 → PS → Prop) : Prop :=
  if a1 < 0 then
    nZ .boolean 0 (post 0 S)
  else
    gI S a0 7 5 fun v2 => (
    if (v2 - 1) ≤ a1 then
      nZ .boolean 0 (post 0 S)
    else
      if a2 < 0 then
        nZ .boolean 0 (post 0 S)
      else
        gI S a0 7 5 fun v5 => (
        if (v5 - a1) ≤ a2 then
          nZ .boolean 0 (post 0 S)
        else
          nZ .boolean 1 (post 1 S)))
abbrev rm_X3_hasPlace : Room := { frames := 0, cells := 0, slots := 0, locals := 0 }
set_option maxHeartbeats 4000000 in
set_option maxRecDepth 100000 in
theorem c_X3_hasPlace (l : Launch) (D : va_G) (cy : Nat → ClassId) (G : p_GT) (hG : p_ok G) (S : PS) (a0 : Nat) (a1 : Int32) (a2 : Int32) (post : Int32 → PS → Prop) (sz : Nat) (hf : f_X3_hasPlace S a0 a1 a2 post) : p_Mi l D cy G S sz yX3_hasPlace (Cond.code yX3_hasPlace cX3_hasPlace 3 (some .boolean) :: wG) rm_X3_hasPlace [.ref a0, .int a1, .int a2] 0 0 post := by
  refine q_start hG (Qc := fun A => va_Qi post (p_Post D cy A) A) mf_X3_hasPlace (Nat.le_of_ble_eq_true rfl) (own := RX3) rfl ?_
  intro p e s m below meth c A X hr hlk hnm ls hl hH
  have hx := X.1.1
  have hb := X.1.2.1
  replace hl : lv_has ls 3 [(0, .ref a0), (1, .int a1), (2, .int a2)] := hl
  obtain ⟨H, hHe⟩ : ∃ H, H = s.heap := ⟨_, rfl⟩
  obtain ⟨locs, hlo⟩ : ∃ locs : List Loc, locs = [] := ⟨_, rfl⟩
  rw [← hHe, ← hlo] at hH
  show W p l e rm_X3_hasPlace s m [.ref a0, .int a1, .int a2].toArray below meth c s.heap [] 0 0 _ _
  rw [← hHe, ← hlo]
  refine lv_iload_n hx hb dX3_hasPlace_0 rfl (lv_at hl 1 rfl) ?_
  refine lv_if_lt (tgt := 32) hx hb dX3_hasPlace_1 (by decide) (fun c1 => ?_) (fun c1 => ?_)
  · have hf := (if_pos c1).mp hf
    refine lv_iconst (v := 0) hx hb dX3_hasPlace_32 (by decide) ?_
    exact q_retZ X hH hr hlk hf (Nat.zero_le _) (Nat.zero_le _) dX3_hasPlace_33
  · have hf := (if_neg c1).mp hf
    refine lv_iload_n hx hb dX3_hasPlace_4 rfl (lv_at hl 1 rfl) ?_
    refine lv_aload_n hx hb dX3_hasPlace_5 rfl (lv_at hl 0 rfl) ?_
    refine q_getI (T := TX3) (N := 6) X hH hf iw_X3 rfl (by decide) tw_128 (fun _ h => h) dX3_hasPlace_6 (fun v2 hf => ?_)
    refine lv_iconst (v := 1) hx hb dX3_hasPlace_9 (by decide) ?_
    refine lv_isub hx hb dX3_hasPlace_10 ?_
    refine lv_icmp_ge (tgt := 32) hx hb dX3_hasPlace_11 (by decide) (fun c3 => ?_) (fun c3 => ?_)
    · have hf := (if_pos c3).mp hf
      refine lv_iconst (v := 0) hx hb dX3_hasPlace_32 (by decide) ?_
      exact q_retZ X hH hr hlk hf (Nat.zero_le _) (Nat.zero_le _) dX3_hasPlace_33
    · have hf := (if_neg c3).mp hf
      refine lv_iload_n hx hb dX3_hasPlace_14 rfl (lv_at hl 2 rfl) ?_
      refine lv_if_lt (tgt := 32) hx hb dX3_hasPlace_15 (by decide) (fun c4 => ?_) (fun c4 => ?_)
      · have hf := (if_pos c4).mp hf
        refine lv_iconst (v := 0) hx hb dX3_hasPlace_32 (by decide) ?_
        exact q_retZ X hH hr hlk hf (Nat.zero_le _) (Nat.zero_le _) dX3_hasPlace_33
      · have hf := (if_neg c4).mp hf
        refine lv_iload_n hx hb dX3_hasPlace_18 rfl (lv_at hl 2 rfl) ?_
        refine lv_aload_n hx hb dX3_hasPlace_19 rfl (lv_at hl 0 rfl) ?_
        refine q_getI (T := TX3) (N := 6) X hH hf iw_X3 rfl (by decide) tw_128 (fun _ h => h) dX3_hasPlace_20 (fun v5 hf => ?_)
        refine lv_iload_n hx hb dX3_hasPlace_23 rfl (lv_at hl 1 rfl) ?_
        refine lv_isub hx hb dX3_hasPlace_24 ?_
        refine lv_icmp_ge (tgt := 32) hx hb dX3_hasPlace_25 (by decide) (fun c6 => ?_) (fun c6 => ?_)
        · have hf := (if_pos c6).mp hf
          refine lv_iconst (v := 0) hx hb dX3_hasPlace_32 (by decide) ?_
          exact q_retZ X hH hr hlk hf (Nat.zero_le _) (Nat.zero_le _) dX3_hasPlace_33
        · have hf := (if_neg c6).mp hf
          refine lv_iconst (v := 1) hx hb dX3_hasPlace_28 (by decide) ?_
          refine lv_goto (tgt := 33) hx hb dX3_hasPlace_29 (by decide) ?_
          exact q_retZ X hH hr hlk hf (Nat.zero_le _) (Nat.zero_le _) dX3_hasPlace_33
-- X3_groupAt
def f_X3_groupAt (S : PS) (a0 : Nat) (a1 : Int32) (a2 : Int32) (post : Int32 → PS → Prop) : Prop :=
  isO S a0 7 (
  f_X3_hasPlace S a0 a1 a2 fun v2 S1 => (
  if v2 = 0 then
    post 0 S1
  else
    gR S1 a0 7 0 fun v4 => (
    aI S1 v4 0 ((a1 * 9) + a2) fun v5 => (
    post v5 S1))))
abbrev rm_X3_groupAt : Room := { frames := 1, cells := 0, slots := 0, locals := 22 }
set_option maxHeartbeats 4000000 in
set_option maxRecDepth 100000 in
theorem c_X3_groupAt (l : Launch) (D : va_G) (cy : Nat → ClassId) (G : p_GT) (hG : p_ok G) (S : PS) (a0 : Nat) (a1 : Int32) (a2 : Int32) (post : Int32 → PS → Prop) (sz : Nat) (hf : f_X3_groupAt S a0 a1 a2 post) : p_Mi l D cy G S sz yX3_groupAt (Cond.code yX3_groupAt cX3_groupAt 3 (some .int) :: wG) rm_X3_groupAt [.ref a0, .int a1, .int a2] 0 0 post := by
  refine q_start hG (Qc := fun A => va_Qi post (p_Post D cy A) A) mf_X3_groupAt (Nat.le_of_ble_eq_true rfl) (own := RX3) rfl ?_
  intro p e s m below meth c A X hr hlk hnm ls hl hH
  have hx := X.1.1
  have hb := X.1.2.1
  replace hl : lv_has ls 3 [(0, .ref a0), (1, .int a1), (2, .int a2)] := hl
  obtain ⟨H, hHe⟩ : ∃ H, H = s.heap := ⟨_, rfl⟩
  obtain ⟨locs, hlo⟩ : ∃ locs : List Loc, locs = [] := ⟨_, rfl⟩
  rw [← hHe, ← hlo] at hH
  show W p l e rm_X3_groupAt s m [.ref a0, .int a1, .int a2].toArray below meth c s.heap [] 0 0 _ _
  rw [← hHe, ← hlo]
  refine lv_aload_n hx hb dX3_groupAt_0 rfl (lv_at hl 0 rfl) ?_
  refine lv_iload_n hx hb dX3_groupAt_1 rfl (lv_at hl 1 rfl) ?_
  refine lv_iload_n hx hb dX3_groupAt_2 rfl (lv_at hl 2 rfl) ?_
  obtain ⟨hb1, hb2, hf⟩ := hf
  refine q_backI0 X hH (q_runV [.int a1, .int a2] [] X hH hl (c_X3_hasPlace l D cy G X.2.2.2.1 S a0 a1 a2 _ _ hf) mf_X3_hasPlace mv_X3_hasPlace tw_479 ⟨Nat.le_of_ble_eq_true rfl, Nat.le_of_ble_eq_true rfl⟩ hb1 hb2 (T := TX3) (N := 6) rfl rfl (Nat.le_of_ble_eq_true rfl) dX3_groupAt_3 ⟨Nat.le_of_ble_eq_true rfl, Nat.le_of_ble_eq_true rfl⟩) (fun v2 S1 hf H locs hH => ?_)
  refine lv_if_eq (tgt := 23) hx hb dX3_groupAt_6 (by decide) (fun c3 => ?_) (fun c3 => ?_)
  · have hf := (if_pos c3).mp hf
    refine lv_iconst (v := 0) hx hb dX3_groupAt_23 (by decide) ?_
    exact q_retI X hH hr hlk hf (Nat.zero_le _) (Nat.zero_le _) dX3_groupAt_24
  · have hf := (if_neg c3).mp hf
    refine lv_aload_n hx hb dX3_groupAt_9 rfl (lv_at hl 0 rfl) ?_
    refine q_getR (T := TX3) (N := 6) X hH hf iw_X3 rfl (by decide) tw_123 (fun _ h => h) dX3_groupAt_10 (fun v4 hf => ?_)
    refine lv_iload_n hx hb dX3_groupAt_13 rfl (lv_at hl 1 rfl) ?_
    refine lv_bipush (v := 9) hx hb dX3_groupAt_14 (by decide) ?_
    refine lv_imul hx hb dX3_groupAt_16 ?_
    refine lv_iload_n hx hb dX3_groupAt_17 rfl (lv_at hl 2 rfl) ?_
    refine lv_iadd hx hb dX3_groupAt_18 ?_
    refine q_iald X hH hf dX3_groupAt_19 (fun v5 hf => ?_)
    refine lv_goto (tgt := 24) hx hb dX3_groupAt_20 (by decide) ?_
    exact q_retI X hH hr hlk hf (Nat.zero_le _) (Nat.zero_le _) dX3_groupAt_24
-- X3_pullAt
def f_X3_pullAt (S : PS) (a0 : Nat) (a1 : Int32) (a2 : Int32) (post : Int32 → PS → Prop) : Prop :=
  isO S a0 7 (
  f_X3_hasPlace S a0 a1 a2 fun v2 S1 => (
  if v2 = 0 then
    post 0 S1
  else
    gR S1 a0 7 1 fun v4 => (
    aI S1 v4 0 ((a1 * 9) + a2) fun v5 => (
    post v5 S1))))
abbrev rm_X3_pullAt : Room := { frames := 1, cells := 0, slots := 0, locals := 22 }
set_option maxHeartbeats 4000000 in
set_option maxRecDepth 100000 in
theorem c_X3_pullAt (l : Launch) (D : va_G) (cy : Nat → ClassId) (G : p_GT) (hG : p_ok G) (S : PS) (a0 : Nat) (a1 : Int32) (a2 : Int32) (post : Int32 → PS → Prop) (sz : Nat) (hf : f_X3_pullAt S a0 a1 a2 post) : p_Mi l D cy G S sz yX3_pullAt (Cond.code yX3_pullAt cX3_pullAt 3 (some .int) :: wG) rm_X3_pullAt [.ref a0, .int a1, .int a2] 0 0 post := by
  refine q_start hG (Qc := fun A => va_Qi post (p_Post D cy A) A) mf_X3_pullAt (Nat.le_of_ble_eq_true rfl) (own := RX3) rfl ?_
  intro p e s m below meth c A X hr hlk hnm ls hl hH
  have hx := X.1.1
  have hb := X.1.2.1
  replace hl : lv_has ls 3 [(0, .ref a0), (1, .int a1), (2, .int a2)] := hl
  obtain ⟨H, hHe⟩ : ∃ H, H = s.heap := ⟨_, rfl⟩
  obtain ⟨locs, hlo⟩ : ∃ locs : List Loc, locs = [] := ⟨_, rfl⟩
  rw [← hHe, ← hlo] at hH
  show W p l e rm_X3_pullAt s m [.ref a0, .int a1, .int a2].toArray below meth c s.heap [] 0 0 _ _
  rw [← hHe, ← hlo]
  refine lv_aload_n hx hb dX3_pullAt_0 rfl (lv_at hl 0 rfl) ?_
  refine lv_iload_n hx hb dX3_pullAt_1 rfl (lv_at hl 1 rfl) ?_
  refine lv_iload_n hx hb dX3_pullAt_2 rfl (lv_at hl 2 rfl) ?_
  obtain ⟨hb1, hb2, hf⟩ := hf
  refine q_backI0 X hH (q_runV [.int a1, .int a2] [] X hH hl (c_X3_hasPlace l D cy G X.2.2.2.1 S a0 a1 a2 _ _ hf) mf_X3_hasPlace mv_X3_hasPlace tw_479 ⟨Nat.le_of_ble_eq_true rfl, Nat.le_of_ble_eq_true rfl⟩ hb1 hb2 (T := TX3) (N := 6) rfl rfl (Nat.le_of_ble_eq_true rfl) dX3_pullAt_3 ⟨Nat.le_of_ble_eq_true rfl, Nat.le_of_ble_eq_true rfl⟩) (fun v2 S1 hf H locs hH => ?_)
  refine lv_if_eq (tgt := 23) hx hb dX3_pullAt_6 (by decide) (fun c3 => ?_) (fun c3 => ?_)
  · have hf := (if_pos c3).mp hf
    refine lv_iconst (v := 0) hx hb dX3_pullAt_23 (by decide) ?_
    exact q_retI X hH hr hlk hf (Nat.zero_le _) (Nat.zero_le _) dX3_pullAt_24
  · have hf := (if_neg c3).mp hf
    refine lv_aload_n hx hb dX3_pullAt_9 rfl (lv_at hl 0 rfl) ?_
    refine q_getR (T := TX3) (N := 6) X hH hf iw_X3 rfl (by decide) tw_124 (fun _ h => h) dX3_pullAt_10 (fun v4 hf => ?_)
    refine lv_iload_n hx hb dX3_pullAt_13 rfl (lv_at hl 1 rfl) ?_
    refine lv_bipush (v := 9) hx hb dX3_pullAt_14 (by decide) ?_
    refine lv_imul hx hb dX3_pullAt_16 ?_
    refine lv_iload_n hx hb dX3_pullAt_17 rfl (lv_at hl 2 rfl) ?_
    refine lv_iadd hx hb dX3_pullAt_18 ?_
    refine q_iald X hH hf dX3_pullAt_19 (fun v5 hf => ?_)
    refine lv_goto (tgt := 24) hx hb dX3_pullAt_20 (by decide) ?_
    exact q_retI X hH hr hlk hf (Nat.zero_le _) (Nat.zero_le _) dX3_pullAt_24
-- X3_cutOf
def f_X3_cutOf (S : PS) (a0 : Nat) (a1 : Int32) (post : Int32 → PS → Prop) : Prop :=
  gI S a0 7 5 fun v1 => (
  isO S a0 7 (
  f_X3_pullAt S a0 a1 ((v1 - a1) - 1) fun v3 S2 => (
  post v3 S2)))
abbrev rm_X3_cutOf : Room := { frames := 2, cells := 0, slots := 0, locals := 44 }
set_option maxHeartbeats 4000000 in
set_option maxRecDepth 100000 in
theorem c_X3_cutOf (l : Launch) (D : va_G) (cy : Nat → ClassId) (G : p_GT) (hG : p_ok G) (S : PS) (a0 : Nat) (a1 : Int32) (post : Int32 → PS → Prop) (sz : Nat) (hf : f_X3_cutOf S a0 a1 post) : p_Mi l D cy G S sz yX3_cutOf (Cond.code yX3_cutOf cX3_cutOf 2 (some .int) :: wG) rm_X3_cutOf [.ref a0, .int a1] 0 0 post := by
  refine q_start hG (Qc := fun A => va_Qi post (p_Post D cy A) A) mf_X3_cutOf (Nat.le_of_ble_eq_true rfl) (own := RX3) rfl ?_
  intro p e s m below meth c A X hr hlk hnm ls hl hH
  have hx := X.1.1
  have hb := X.1.2.1
  replace hl : lv_has ls 2 [(0, .ref a0), (1, .int a1)] := hl
  obtain ⟨H, hHe⟩ : ∃ H, H = s.heap := ⟨_, rfl⟩
  obtain ⟨locs, hlo⟩ : ∃ locs : List Loc, locs = [] := ⟨_, rfl⟩
  rw [← hHe, ← hlo] at hH
  show W p l e rm_X3_cutOf s m [.ref a0, .int a1].toArray below meth c s.heap [] 0 0 _ _
  rw [← hHe, ← hlo]
  refine lv_aload_n hx hb dX3_cutOf_0 rfl (lv_at hl 0 rfl) ?_
  refine lv_iload_n hx hb dX3_cutOf_1 rfl (lv_at hl 1 rfl) ?_
  refine lv_aload_n hx hb dX3_cutOf_2 rfl (lv_at hl 0 rfl) ?_
  refine q_getI (T := TX3) (N := 6) X hH hf iw_X3 rfl (by decide) tw_128 (fun _ h => h) dX3_cutOf_3 (fun v1 hf => ?_)
  refine lv_iload_n hx hb dX3_cutOf_6 rfl (lv_at hl 1 rfl) ?_
  refine lv_isub hx hb dX3_cutOf_7 ?_
  refine lv_iconst (v := 1) hx hb dX3_cutOf_8 (by decide) ?_
  refine lv_isub hx hb dX3_cutOf_9 ?_
  obtain ⟨hb1, hb2, hf⟩ := hf
  refine q_backI0 X hH (q_runV [.int a1, .int ((v1 - a1) - 1)] [] X hH hl (c_X3_pullAt l D cy G X.2.2.2.1 S a0 a1 ((v1 - a1) - 1) _ _ hf) mf_X3_pullAt mv_X3_pullAt tw_506 ⟨Nat.le_of_ble_eq_true rfl, Nat.le_of_ble_eq_true rfl⟩ hb1 hb2 (T := TX3) (N := 6) rfl rfl (Nat.le_of_ble_eq_true rfl) dX3_cutOf_10 ⟨Nat.le_of_ble_eq_true rfl, Nat.le_of_ble_eq_true rfl⟩) (fun v3 S2 hf H locs hH => ?_)
  exact q_retI X hH hr hlk hf (Nat.zero_le _) (Nat.zero_le _) dX3_cutOf_13
-- X3_leastPhase
def f_X3_leastPhase_J29 (post : Int32 → PS → Prop) (g4 : PS → Nat → Int32 → Int32 → Prop) (S : PS) (l0 : Nat) (l1 : Int32) (l2 : Int32) : Prop :=
  g4 S l0 l1 (l2 + 1)
def f_X3_leastPhase_L4 (post : Int32 → PS → Prop) : Nat → PS → Nat → Int32 → Int32 → Prop
  | 0, _, _, _, _ => False
  | n + 1, S, l0, l1, l2 =>
  gI S l0 7 5 fun v1 => (
  if (v1 - 1) ≤ l2 then
    post l1 S
  else
    isO S l0 7 (
    f_X3_cutOf S l0 l2 fun v4 S3 => (
    isO S3 l0 7 (
    f_X3_cutOf S3 l0 l1 fun v6 S5 => (
    if v6 ≤ v4 then
      f_X3_leastPhase_J29 post (f_X3_leastPhase_L4 post n) S5 l0 l1 l2
    else
      f_X3_leastPhase_J29 post (f_X3_leastPhase_L4 post n) S5 l0 l2 l2)))))
def f_X3_leastPhase (S : PS) (a0 : Nat) (post : Int32 → PS → Prop) : Prop :=
  f_X3_leastPhase_L4 post 4096 S a0 0 1
abbrev rm_X3_leastPhase : Room := { frames := 3, cells := 0, slots := 0, locals := 65 }
set_option maxHeartbeats 4000000 in
set_option maxRecDepth 100000 in
theorem c_X3_leastPhase (l : Launch) (D : va_G) (cy : Nat → ClassId) (G : p_GT) (hG : p_ok G) (S : PS) (a0 : Nat) (post : Int32 → PS → Prop) (sz : Nat) (hf : f_X3_leastPhase S a0 post) : p_Mi l D cy G S sz yX3_leastPhase (Cond.code yX3_leastPhase cX3_leastPhase 3 (some .int) :: wG) rm_X3_leastPhase [.ref a0] 0 0 post := by
  refine q_start hG (Qc := fun A => va_Qi post (p_Post D cy A) A) mf_X3_leastPhase (Nat.le_of_ble_eq_true rfl) (own := RX3) rfl ?_
  intro p e s m below meth c A X hr hlk hnm ls hl hH
  have hx := X.1.1
  have hb := X.1.2.1
  replace hl : lv_has ls 3 [(0, .ref a0)] := hl
  obtain ⟨H, hHe⟩ : ∃ H, H = s.heap := ⟨_, rfl⟩
  obtain ⟨locs, hlo⟩ : ∃ locs : List Loc, locs = [] := ⟨_, rfl⟩
  rw [← hHe, ← hlo] at hH
  show W p l e rm_X3_leastPhase s m [.ref a0].toArray below meth c s.heap [] 0 0 _ _
  rw [← hHe, ← hlo]
  have hL4 : ∀ (n4 : Nat) (S : PS) (l0 : Nat) (l1 : Int32) (l2 : Int32), f_X3_leastPhase_L4 post n4 S l0 l1 l2 → ∀ (H : Heap) (locs : List Loc) (ls : Array Slot), p_H D cy S A s H locs → lv_has ls 3 [(0, .ref l0), (1, .int l1), (2, .int l2)] → W p l e rm_X3_leastPhase s m [.ref a0].toArray below meth c H locs 0 0 (MQ below (va_Qi post (p_Post D cy A) A) [.ref a0].toArray s 0 0 A) (F0 m 4 ls []) := by
    intro n4
    induction n4 with
    | zero => intro S l0 l1 l2 hf; exact hf.elim
    | succ n4 ih4 =>
      intro S l0 l1 l2 hf H locs ls hH hl
      have hJ29 : ∀ (S : PS) (l0 : Nat) (l1 : Int32) (l2 : Int32), f_X3_leastPhase_J29 post (f_X3_leastPhase_L4 post n4) S l0 l1 l2 → ∀ (H : Heap) (locs : List Loc) (ls : Array Slot), p_H D cy S A s H locs → lv_has ls 3 [(0, .ref l0), (1, .int l1), (2, .int l2)] → W p l e rm_X3_leastPhase s m [.ref a0].toArray below meth c H locs 0 0 (MQ below (va_Qi post (p_Post D cy A) A) [.ref a0].toArray s 0 0 A) (F0 m 29 ls []) := by
        intro S l0 l1 l2 hf H locs ls hH hl
        refine lv_iinc (v := l2 + 1) (lv' := [(2, .int (l2 + 1)), (0, .ref l0), (1, .int l1)]) hx hb dX3_leastPhase_29 hl (k := 2) rfl rfl (by decide) rfl (fun ls hl => ?_)
        refine lv_goto (tgt := 4) hx hb dX3_leastPhase_32 (by decide) ?_
        exact ih4 S l0 l1 (l2 + 1) hf H locs ls hH (lv_sub hl [1, 2, 0] rfl)
      refine lv_iload_n hx hb dX3_leastPhase_4 rfl (lv_at hl 2 rfl) ?_
      refine lv_aload_n hx hb dX3_leastPhase_5 rfl (lv_at hl 0 rfl) ?_
      refine q_getI (T := TX3) (N := 6) X hH hf iw_X3 rfl (by decide) tw_128 (fun _ h => h) dX3_leastPhase_6 (fun v1 hf => ?_)
      refine lv_iconst (v := 1) hx hb dX3_leastPhase_9 (by decide) ?_
      refine lv_isub hx hb dX3_leastPhase_10 ?_
      refine lv_icmp_ge (tgt := 35) hx hb dX3_leastPhase_11 (by decide) (fun c2 => ?_) (fun c2 => ?_)
      · have hf := (if_pos c2).mp hf
        refine lv_iload_n hx hb dX3_leastPhase_35 rfl (lv_at hl 1 rfl) ?_
        exact q_retI X hH hr hlk hf (Nat.zero_le _) (Nat.zero_le _) dX3_leastPhase_36
      · have hf := (if_neg c2).mp hf
        refine lv_aload_n hx hb dX3_leastPhase_14 rfl (lv_at hl 0 rfl) ?_
        refine lv_iload_n hx hb dX3_leastPhase_15 rfl (lv_at hl 2 rfl) ?_
        obtain ⟨hb1, hb2, hf⟩ := hf
        refine q_backI0 X hH (q_runV [.int l2] [] X hH hl (c_X3_cutOf l D cy G X.2.2.2.1 S l0 l2 _ _ hf) mf_X3_cutOf mv_X3_cutOf tw_657 ⟨Nat.le_of_ble_eq_true rfl, Nat.le_of_ble_eq_true rfl⟩ hb1 hb2 (T := TX3) (N := 6) rfl rfl (Nat.le_of_ble_eq_true rfl) dX3_leastPhase_16 ⟨Nat.le_of_ble_eq_true rfl, Nat.le_of_ble_eq_true rfl⟩) (fun v4 S3 hf H locs hH => ?_)
        refine lv_aload_n hx hb dX3_leastPhase_19 rfl (lv_at hl 0 rfl) ?_
        refine lv_iload_n hx hb dX3_leastPhase_20 rfl (lv_at hl 1 rfl) ?_
        obtain ⟨hb1, hb2, hf⟩ := hf
        refine q_backI0 X hH (q_runV [.int l1] [.int v4] X hH hl (c_X3_cutOf l D cy G X.2.2.2.1 S3 l0 l1 _ _ hf) mf_X3_cutOf mv_X3_cutOf tw_657 ⟨Nat.le_of_ble_eq_true rfl, Nat.le_of_ble_eq_true rfl⟩ hb1 hb2 (T := TX3) (N := 6) rfl rfl (Nat.le_of_ble_eq_true rfl) dX3_leastPhase_21 ⟨Nat.le_of_ble_eq_true rfl, Nat.le_of_ble_eq_true rfl⟩) (fun v6 S5 hf H locs hH => ?_)
        refine lv_icmp_ge (tgt := 29) hx hb dX3_leastPhase_24 (by decide) (fun c7 => ?_) (fun c7 => ?_)
        · have hf := (if_pos c7).mp hf
          exact hJ29 S5 l0 l1 l2 hf H locs ls hH hl
        · have hf := (if_neg c7).mp hf
          refine lv_iload_n hx hb dX3_leastPhase_27 rfl (lv_at hl 2 rfl) ?_
          refine lv_istore_n (lv' := [(1, .int l2), (0, .ref l0), (2, .int l2)]) hx hb dX3_leastPhase_28 rfl hl (by decide) rfl (fun ls hl => ?_)
          exact hJ29 S5 l0 l2 l2 hf H locs ls hH (lv_sub hl [1, 0, 2] rfl)
  refine lv_iconst (v := 0) hx hb dX3_leastPhase_0 (by decide) ?_
  refine lv_istore_n (lv' := [(1, .int 0), (0, .ref a0)]) hx hb dX3_leastPhase_1 rfl hl (by decide) rfl (fun ls hl => ?_)
  refine lv_iconst (v := 1) hx hb dX3_leastPhase_2 (by decide) ?_
  refine lv_istore_n (lv' := [(2, .int 1), (1, .int 0), (0, .ref a0)]) hx hb dX3_leastPhase_3 rfl hl (by decide) rfl (fun ls hl => ?_)
  exact hL4 4096 S a0 0 1 hf H locs ls hH (lv_sub hl [2, 1, 0] rfl)
-- X3_leastGroup
def f_X3_leastGroup (S : PS) (a0 : Nat) (post : Int32 → PS → Prop) : Prop :=
  isO S a0 7 (
  f_X3_leastPhase S a0 fun v2 S1 => (
  gI S1 a0 7 5 fun v3 => (
  isO S1 a0 7 (
  f_X3_groupAt S1 a0 v2 ((v3 - v2) - 1) fun v5 S4 => (
  post v5 S4)))))
abbrev rm_X3_leastGroup : Room := { frames := 4, cells := 0, slots := 0, locals := 87 }
set_option maxHeartbeats 4000000 in
set_option maxRecDepth 100000 in
theorem c_X3_leastGroup (l : Launch) (D : va_G) (cy : Nat → ClassId) (G : p_GT) (hG : p_ok G) (S : PS) (a0 : Nat) (post : Int32 → PS → Prop) (sz : Nat) (hf : f_X3_leastGroup S a0 post) : p_Mi l D cy G S sz yX3_leastGroup (Cond.code yX3_leastGroup cX3_leastGroup 2 (some .int) :: wG) rm_X3_leastGroup [.ref a0] 0 0 post := by
  refine q_start hG (Qc := fun A => va_Qi post (p_Post D cy A) A) mf_X3_leastGroup (Nat.le_of_ble_eq_true rfl) (own := RX3) rfl ?_
  intro p e s m below meth c A X hr hlk hnm ls hl hH
  have hx := X.1.1
  have hb := X.1.2.1
  replace hl : lv_has ls 2 [(0, .ref a0)] := hl
  obtain ⟨H, hHe⟩ : ∃ H, H = s.heap := ⟨_, rfl⟩
  obtain ⟨locs, hlo⟩ : ∃ locs : List Loc, locs = [] := ⟨_, rfl⟩
  rw [← hHe, ← hlo] at hH
  show W p l e rm_X3_leastGroup s m [.ref a0].toArray below meth c s.heap [] 0 0 _ _
  rw [← hHe, ← hlo]
  refine lv_aload_n hx hb dX3_leastGroup_0 rfl (lv_at hl 0 rfl) ?_
  obtain ⟨hb1, hb2, hf⟩ := hf
  refine q_backI0 X hH (q_runV [] [] X hH hl (c_X3_leastPhase l D cy G X.2.2.2.1 S a0 _ _ hf) mf_X3_leastPhase mv_X3_leastPhase tw_1073 ⟨Nat.le_of_ble_eq_true rfl, Nat.le_of_ble_eq_true rfl⟩ hb1 hb2 (T := TX3) (N := 6) rfl rfl (Nat.le_of_ble_eq_true rfl) dX3_leastGroup_1 ⟨Nat.le_of_ble_eq_true rfl, Nat.le_of_ble_eq_true rfl⟩) (fun v2 S1 hf H locs hH => ?_)
  refine lv_istore_n (lv' := [(1, .int v2), (0, .ref a0)]) hx hb dX3_leastGroup_4 rfl hl (by decide) rfl (fun ls hl => ?_)
  refine lv_aload_n hx hb dX3_leastGroup_5 rfl (lv_at hl 1 rfl) ?_
  refine lv_iload_n hx hb dX3_leastGroup_6 rfl (lv_at hl 0 rfl) ?_
  refine lv_aload_n hx hb dX3_leastGroup_7 rfl (lv_at hl 1 rfl) ?_
  refine q_getI (T := TX3) (N := 6) X hH hf iw_X3 rfl (by decide) tw_128 (fun _ h => h) dX3_leastGroup_8 (fun v3 hf => ?_)
  refine lv_iload_n hx hb dX3_leastGroup_11 rfl (lv_at hl 0 rfl) ?_
  refine lv_isub hx hb dX3_leastGroup_12 ?_
  refine lv_iconst (v := 1) hx hb dX3_leastGroup_13 (by decide) ?_
  refine lv_isub hx hb dX3_leastGroup_14 ?_
  obtain ⟨hb1, hb2, hf⟩ := hf
  refine q_backI0 X hH (q_runV [.int v2, .int ((v3 - v2) - 1)] [] X hH hl (c_X3_groupAt l D cy G X.2.2.2.1 S1 a0 v2 ((v3 - v2) - 1) _ _ hf) mf_X3_groupAt mv_X3_groupAt tw_487 ⟨Nat.le_of_ble_eq_true rfl, Nat.le_of_ble_eq_true rfl⟩ hb1 hb2 (T := TX3) (N := 6) rfl rfl (Nat.le_of_ble_eq_true rfl) dX3_leastGroup_15 ⟨Nat.le_of_ble_eq_true rfl, Nat.le_of_ble_eq_true rfl⟩) (fun v5 S4 hf H locs hH => ?_)
  exact q_retI X hH hr hlk hf (Nat.zero_le _) (Nat.zero_le _) dX3_leastGroup_18
-- X4_init
def f_X4_init (S : PS) (a0 : Nat) (post : PS → Prop) : Prop :=
  pV S a0 8 0 (.int 0) fun S1 => (
  pV S1 a0 8 1 (.int 0) fun S2 => (
  pV S2 a0 8 2 (.int 0) fun S3 => (
  pV S3 a0 8 3 (.int 0) fun S4 => (
  post S4))))
abbrev rm_X4_init : Room := { frames := 1, cells := 0, slots := 0, locals := 20 }
set_option maxHeartbeats 4000000 in
set_option maxRecDepth 100000 in
theorem c_X4_init (l : Launch) (D : va_G) (cy : Nat → ClassId) (G : p_GT) (hG : p_ok G) (S : PS) (a0 : Nat) (post : PS → Prop) (sz : Nat) (hf : f_X4_init S a0 post) : p_Mv l D cy G S sz yX4_init (Cond.code yX4_init cX4_init 1 none :: wG) rm_X4_init [.ref a0] 0 0 post := by
  refine q_start hG (Qc := fun A => va_Qv post (p_Post D cy A) A) mf_X4_init (Nat.le_of_ble_eq_true rfl) (own := RX4) rfl ?_
  intro p e s m below meth c A X hr hlk hnm ls hl hH
  have hx := X.1.1
  have hb := X.1.2.1
  replace hl : lv_has ls 1 [(0, .ref a0)] := hl
  obtain ⟨H, hHe⟩ : ∃ H, H = s.heap := ⟨_, rfl⟩
  obtain ⟨locs, hlo⟩ : ∃ locs : List Loc, locs = [] := ⟨_, rfl⟩
  rw [← hHe, ← hlo] at hH
  show W p l e rm_X4_init s m [.ref a0].toArray below meth c s.heap [] 0 0 _ _
  rw [← hHe, ← hlo]
  refine lv_aload_n hx hb dX4_init_0 rfl (lv_at hl 0 rfl) ?_
  refine q_objInit X hl tw_237 tw_64 tw_o ⟨Nat.le_of_ble_eq_true rfl, Nat.le_of_ble_eq_true rfl⟩ (Nat.le_of_ble_eq_true rfl) dX4_init_1 ?_
  refine lv_aload_n hx hb dX4_init_4 rfl (lv_at hl 0 rfl) ?_
  refine lv_iconst (v := 0) hx hb dX4_init_5 (by decide) ?_
  refine q_putV (T := TX4) (N := 4) (ty0 := tyX4) (ty := tyX4 0) X hH hf iw_X4 tyX4_ok nmX4 rfl (by decide) tw_238 (fun _ h => h) rfl (tyX4_ok 0 (by decide)) rfl rfl dX4_init_6 (fun S1 hf H locs hH => ?_)
  refine lv_aload_n hx hb dX4_init_9 rfl (lv_at hl 0 rfl) ?_
  refine lv_iconst (v := 0) hx hb dX4_init_10 (by decide) ?_
  refine q_putV (T := TX4) (N := 4) (ty0 := tyX4) (ty := tyX4 1) X hH hf iw_X4 tyX4_ok nmX4 rfl (by decide) tw_239 (fun _ h => h) rfl (tyX4_ok 1 (by decide)) rfl rfl dX4_init_11 (fun S2 hf H locs hH => ?_)
  refine lv_aload_n hx hb dX4_init_14 rfl (lv_at hl 0 rfl) ?_
  refine lv_iconst (v := 0) hx hb dX4_init_15 (by decide) ?_
  refine q_putV (T := TX4) (N := 4) (ty0 := tyX4) (ty := tyX4 2) X hH hf iw_X4 tyX4_ok nmX4 rfl (by decide) tw_240 (fun _ h => h) rfl (tyX4_ok 2 (by decide)) rfl rfl dX4_init_16 (fun S3 hf H locs hH => ?_)
  refine lv_aload_n hx hb dX4_init_19 rfl (lv_at hl 0 rfl) ?_
  refine lv_iconst (v := 0) hx hb dX4_init_20 (by decide) ?_
  refine q_putV (T := TX4) (N := 4) (ty0 := tyX4) (ty := tyX4 3) X hH hf iw_X4 tyX4_ok nmX4 rfl (by decide) tw_241 (fun _ h => h) rfl (tyX4_ok 3 (by decide)) rfl rfl dX4_init_21 (fun S4 hf H locs hH => ?_)
  exact q_retV X hH hr hlk hf (Nat.zero_le _) (Nat.zero_le _) dX4_init_24
-- X4_keep
def f_X4_keep (S : PS) (a0 : Nat) (a1 : Int32) (a2 : Int32) (post : PS → Prop) : Prop :=
  pV S a0 8 0 (.int a1) fun S1 => (
  pV S1 a0 8 1 (.int a2) fun S2 => (
  pV S2 a0 8 2 (.int 0) fun S3 => (
  pV S3 a0 8 3 (.int 0) fun S4 => (
  post S4))))
abbrev rm_X4_keep : Room := { frames := 0, cells := 0, slots := 0, locals := 0 }
set_option maxHeartbeats 4000000 in
set_option maxRecDepth 100000 in
theorem c_X4_keep (l : Launch) (D : va_G) (cy : Nat → ClassId) (G : p_GT) (hG : p_ok G) (S : PS) (a0 : Nat) (a1 : Int32) (a2 : Int32) (post : PS → Prop) (sz : Nat) (hf : f_X4_keep S a0 a1 a2 post) : p_Mv l D cy G S sz yX4_keep (Cond.code yX4_keep cX4_keep 3 none :: wG) rm_X4_keep [.ref a0, .int a1, .int a2] 0 0 post := by
  refine q_start hG (Qc := fun A => va_Qv post (p_Post D cy A) A) mf_X4_keep (Nat.le_of_ble_eq_true rfl) (own := RX4) rfl ?_
  intro p e s m below meth c A X hr hlk hnm ls hl hH
  have hx := X.1.1
  have hb := X.1.2.1
  replace hl : lv_has ls 3 [(0, .ref a0), (1, .int a1), (2, .int a2)] := hl
  obtain ⟨H, hHe⟩ : ∃ H, H = s.heap := ⟨_, rfl⟩
  obtain ⟨locs, hlo⟩ : ∃ locs : List Loc, locs = [] := ⟨_, rfl⟩
  rw [← hHe, ← hlo] at hH
  show W p l e rm_X4_keep s m [.ref a0, .int a1, .int a2].toArray below meth c s.heap [] 0 0 _ _
  rw [← hHe, ← hlo]
  refine lv_aload_n hx hb dX4_keep_0 rfl (lv_at hl 0 rfl) ?_
  refine lv_iload_n hx hb dX4_keep_1 rfl (lv_at hl 1 rfl) ?_
  refine q_putV (T := TX4) (N := 4) (ty0 := tyX4) (ty := tyX4 0) X hH hf iw_X4 tyX4_ok nmX4 rfl (by decide) tw_238 (fun _ h => h) rfl (tyX4_ok 0 (by decide)) rfl rfl dX4_keep_2 (fun S1 hf H locs hH => ?_)
  refine lv_aload_n hx hb dX4_keep_5 rfl (lv_at hl 0 rfl) ?_
  refine lv_iload_n hx hb dX4_keep_6 rfl (lv_at hl 2 rfl) ?_
  refine q_putV (T := TX4) (N := 4) (ty0 := tyX4) (ty := tyX4 1) X hH hf iw_X4 tyX4_ok nmX4 rfl (by decide) tw_239 (fun _ h => h) rfl (tyX4_ok 1 (by decide)) rfl rfl dX4_keep_7 (fun S2 hf H locs hH => ?_)
  refine lv_aload_n hx hb dX4_keep_10 rfl (lv_at hl 0 rfl) ?_
  refine lv_iconst (v := 0) hx hb dX4_keep_11 (by decide) ?_
  refine q_putV (T := TX4) (N := 4) (ty0 := tyX4) (ty := tyX4 2) X hH hf iw_X4 tyX4_ok nmX4 rfl (by decide) tw_240 (fun _ h => h) rfl (tyX4_ok 2 (by decide)) rfl rfl dX4_keep_12 (fun S3 hf H locs hH => ?_)
  refine lv_aload_n hx hb dX4_keep_15 rfl (lv_at hl 0 rfl) ?_
  refine lv_iconst (v := 0) hx hb dX4_keep_16 (by decide) ?_
  refine q_putV (T := TX4) (N := 4) (ty0 := tyX4) (ty := tyX4 3) X hH hf iw_X4 tyX4_ok nmX4 rfl (by decide) tw_241 (fun _ h => h) rfl (tyX4_ok 3 (by decide)) rfl rfl dX4_keep_17 (fun S4 hf H locs hH => ?_)
  exact q_retV X hH hr hlk hf (Nat.zero_le _) (Nat.zero_le _) dX4_keep_20
-- X4_reaches
def f_X4_reaches (S : PS) (a0 : Nat) (a1 : Int32) (post : Int32 → PS → Prop) : Prop :=
  if a1 = 0 then
    gI S a0 8 0 fun v4 => (
    if v4 = 0 then
      nZ .boolean 0 (post 0 S)
    else
      nZ .boolean 1 (post 1 S))
  else
    gI S a0 8 2 fun v2 => (
    if v2 = 0 then
      nZ .boolean 0 (post 0 S)
    else
      nZ .boolean 1 (post 1 S))
abbrev rm_X4_reaches : Room := { frames := 0, cells := 0, slots := 0, locals := 0 }
set_option maxHeartbeats 4000000 in
set_option maxRecDepth 100000 in
theorem c_X4_reaches (l : Launch) (D : va_G) (cy : Nat → ClassId) (G : p_GT) (hG : p_ok G) (S : PS) (a0 : Nat) (a1 : Int32) (post : Int32 → PS → Prop) (sz : Nat) (hf : f_X4_reaches S a0 a1 post) : p_Mi l D cy G S sz yX4_reaches (Cond.code yX4_reaches cX4_reaches 2 (some .boolean) :: wG) rm_X4_reaches [.ref a0, .int a1] 0 0 post := by
  refine q_start hG (Qc := fun A => va_Qi post (p_Post D cy A) A) mf_X4_reaches (Nat.le_of_ble_eq_true rfl) (own := RX4) rfl ?_
  intro p e s m below meth c A X hr hlk hnm ls hl hH
  have hx := X.1.1
  have hb := X.1.2.1
  replace hl : lv_has ls 2 [(0, .ref a0), (1, .int a1)] := hl
  obtain ⟨H, hHe⟩ : ∃ H, H = s.heap := ⟨_, rfl⟩
  obtain ⟨locs, hlo⟩ : ∃ locs : List Loc, locs = [] := ⟨_, rfl⟩
  rw [← hHe, ← hlo] at hH
  show W p l e rm_X4_reaches s m [.ref a0, .int a1].toArray below meth c s.heap [] 0 0 _ _
  rw [← hHe, ← hlo]
  refine lv_iload_n hx hb dX4_reaches_0 rfl (lv_at hl 1 rfl) ?_
  refine lv_if_ne (tgt := 19) hx hb dX4_reaches_1 (by decide) (fun c1 => ?_) (fun c1 => ?_)
  · have hf := (if_neg c1).mp hf
    refine lv_aload_n hx hb dX4_reaches_19 rfl (lv_at hl 0 rfl) ?_
    refine q_getI (T := TX4) (N := 4) X hH hf iw_X4 rfl (by decide) tw_240 (fun _ h => h) dX4_reaches_20 (fun v2 hf => ?_)
    refine lv_if_eq (tgt := 30) hx hb dX4_reaches_23 (by decide) (fun c3 => ?_) (fun c3 => ?_)
    · have hf := (if_pos c3).mp hf
      refine lv_iconst (v := 0) hx hb dX4_reaches_30 (by decide) ?_
      exact q_retZ X hH hr hlk hf (Nat.zero_le _) (Nat.zero_le _) dX4_reaches_31
    · have hf := (if_neg c3).mp hf
      refine lv_iconst (v := 1) hx hb dX4_reaches_26 (by decide) ?_
      refine lv_goto (tgt := 31) hx hb dX4_reaches_27 (by decide) ?_
      exact q_retZ X hH hr hlk hf (Nat.zero_le _) (Nat.zero_le _) dX4_reaches_31
  · have hf := (if_pos c1).mp hf
    refine lv_aload_n hx hb dX4_reaches_4 rfl (lv_at hl 0 rfl) ?_
    refine q_getI (T := TX4) (N := 4) X hH hf iw_X4 rfl (by decide) tw_238 (fun _ h => h) dX4_reaches_5 (fun v4 hf => ?_)
    refine lv_if_eq (tgt := 15) hx hb dX4_reaches_8 (by decide) (fun c5 => ?_) (fun c5 => ?_)
    · have hf := (if_pos c5).mp hf
      refine lv_iconst (v := 0) hx hb dX4_reaches_15 (by decide) ?_
      refine lv_goto (tgt := 31) hx hb dX4_reaches_16 (by decide) ?_
      exact q_retZ X hH hr hlk hf (Nat.zero_le _) (Nat.zero_le _) dX4_reaches_31
    · have hf := (if_neg c5).mp hf
      refine lv_iconst (v := 1) hx hb dX4_reaches_11 (by decide) ?_
      refine lv_goto (tgt := 31) hx hb dX4_reaches_12 (by decide) ?_
      exact q_retZ X hH hr hlk hf (Nat.zero_le _) (Nat.zero_le _) dX4_reaches_31
-- X4_numberAt
def f_X4_numberAt (S : PS) (a0 : Nat) (a1 : Int32) (a2 : Int32) (post : Int32 → PS → Prop) : Prop :=
  if a1 = 0 then
    if a2 = 0 then
      gI S a0 8 0 fun v6 => (
      post v6 S)
    else
      gI S a0 8 1 fun v7 => (
      post v7 S)
  else
    if a2 = 0 then
      gI S a0 8 2 fun v3 => (
      post v3 S)
    else
      gI S a0 8 3 fun v4 => (
      post v4 S)
abbrev rm_X4_numberAt : Room := { frames := 0, cells := 0, slots := 0, locals := 0 }
set_option maxHeartbeats 4000000 in
set_option maxRecDepth 100000 in
theorem c_X4_numberAt (l : Launch) (D : va_G) (cy : Nat → ClassId) (G : p_GT) (hG : p_ok G) (S : PS) (a0 : Nat) (a1 : Int32) (a2 : Int32) (post : Int32 → PS → Prop) (sz : Nat) (hf : f_X4_numberAt S a0 a1 a2 post) : p_Mi l D cy G S sz yX4_numberAt (Cond.code yX4_numberAt cX4_numberAt 3 (some .int) :: wG) rm_X4_numberAt [.ref a0, .int a1, .int a2] 0 0 post := by
  refine q_start hG (Qc := fun A => va_Qi post (p_Post D cy A) A) mf_X4_numberAt (Nat.le_of_ble_eq_true rfl) (own := RX4) rfl ?_
  intro p e s m below meth c A X hr hlk hnm ls hl hH
  have hx := X.1.1
  have hb := X.1.2.1
  replace hl : lv_has ls 3 [(0, .ref a0), (1, .int a1), (2, .int a2)] := hl
  obtain ⟨H, hHe⟩ : ∃ H, H = s.heap := ⟨_, rfl⟩
  obtain ⟨locs, hlo⟩ : ∃ locs : List Loc, locs = [] := ⟨_, rfl⟩
  rw [← hHe, ← hlo] at hH
  show W p l e rm_X4_numberAt s m [.ref a0, .int a1, .int a2].toArray below meth c s.heap [] 0 0 _ _
  rw [← hHe, ← hlo]
  refine lv_iload_n hx hb dX4_numberAt_0 rfl (lv_at hl 1 rfl) ?_
  refine lv_if_ne (tgt := 20) hx hb dX4_numberAt_1 (by decide) (fun c1 => ?_) (fun c1 => ?_)
  · have hf := (if_neg c1).mp hf
    refine lv_iload_n hx hb dX4_numberAt_20 rfl (lv_at hl 2 rfl) ?_
    refine lv_if_eq (tgt := 31) hx hb dX4_numberAt_21 (by decide) (fun c2 => ?_) (fun c2 => ?_)
    · have hf := (if_pos c2).mp hf
      refine lv_aload_n hx hb dX4_numberAt_31 rfl (lv_at hl 0 rfl) ?_
      refine q_getI (T := TX4) (N := 4) X hH hf iw_X4 rfl (by decide) tw_240 (fun _ h => h) dX4_numberAt_32 (fun v3 hf => ?_)
      exact q_retI X hH hr hlk hf (Nat.zero_le _) (Nat.zero_le _) dX4_numberAt_35
    · have hf := (if_neg c2).mp hf
      refine lv_aload_n hx hb dX4_numberAt_24 rfl (lv_at hl 0 rfl) ?_
      refine q_getI (T := TX4) (N := 4) X hH hf iw_X4 rfl (by decide) tw_241 (fun _ h => h) dX4_numberAt_25 (fun v4 hf => ?_)
      refine lv_goto (tgt := 35) hx hb dX4_numberAt_28 (by decide) ?_
      exact q_retI X hH hr hlk hf (Nat.zero_le _) (Nat.zero_le _) dX4_numberAt_35
  · have hf := (if_pos c1).mp hf
    refine lv_iload_n hx hb dX4_numberAt_4 rfl (lv_at hl 2 rfl) ?_
    refine lv_if_eq (tgt := 15) hx hb dX4_numberAt_5 (by decide) (fun c5 => ?_) (fun c5 => ?_)
    · have hf := (if_pos c5).mp hf
      refine lv_aload_n hx hb dX4_numberAt_15 rfl (lv_at hl 0 rfl) ?_
      refine q_getI (T := TX4) (N := 4) X hH hf iw_X4 rfl (by decide) tw_238 (fun _ h => h) dX4_numberAt_16 (fun v6 hf => ?_)
      exact q_retI X hH hr hlk hf (Nat.zero_le _) (Nat.zero_le _) dX4_numberAt_19
    · have hf := (if_neg c5).mp hf
      refine lv_aload_n hx hb dX4_numberAt_8 rfl (lv_at hl 0 rfl) ?_
      refine q_getI (T := TX4) (N := 4) X hH hf iw_X4 rfl (by decide) tw_239 (fun _ h => h) dX4_numberAt_9 (fun v7 hf => ?_)
      refine lv_goto (tgt := 19) hx hb dX4_numberAt_12 (by decide) ?_
      exact q_retI X hH hr hlk hf (Nat.zero_le _) (Nat.zero_le _) dX4_numberAt_19
-- X6_init
def f_X6_init (S : PS) (a0 : Nat) (bc bs : Nat) (post : PS → Prop) : Prop :=
  nA S 0 81 bc bs fun q1 S2 bc3 bs4 => (
  pV S2 a0 10 0 (.ref q1) fun S5 => (
  pV S5 a0 10 1 (.int 0) fun S6 => (
  pV S6 a0 10 2 (.int 0) fun S7 => (
  pV S7 a0 10 3 (.int 0) fun S8 => (
  pV S8 a0 10 4 (.int 0) fun S9 => (
  pV S9 a0 10 5 (.int 0) fun S10 => (
  post S10)))))))
abbrev rm_X6_init (mc ms : Nat) : Room := { frames := 1, cells := mc, slots := ms, locals := 20 }
set_option maxHeartbeats 4000000 in
set_option maxRecDepth 100000 in
theorem c_X6_init (l : Launch) (D : va_G) (cy : Nat → ClassId) (G : p_GT) (hG : p_ok G) (S : PS) (a0 : Nat) (mc ms : Nat) (post : PS → Prop) (sz : Nat) (hf : f_X6_init S a0 mc ms post) : p_Mv l D cy G S sz yX6_init (Cond.code yX6_init cX6_init 1 none :: wG) (rm_X6_init mc ms) [.ref a0] mc ms post := by
  refine q_start hG (Qc := fun A => va_Qv post (p_Post D cy A) A) mf_X6_init (Nat.le_of_ble_eq_true rfl) (own := RX6) rfl ?_
  intro p e s m below meth c A X hr hlk hnm ls hl hH
  have hx := X.1.1
  have hb := X.1.2.1
  replace hl : lv_has ls 1 [(0, .ref a0)] := hl
  have main : ∀ (H : Heap) (locs : List Loc) (ls : Array Slot) (cells slots bc bs : Nat), f_X6_init S a0 bc bs post → p_H D cy S A s H locs → lv_has ls 1 [(0, .ref a0)] → cells + bc ≤ mc ∧ slots + bs ≤ ms → W p l e (rm_X6_init mc ms) s m [.ref a0].toArray below meth c H locs cells slots (MQ below (va_Qv post (p_Post D cy A) A) [.ref a0].toArray s mc ms A) (F0 m 0 ls []) := by
    intro H locs ls cells slots bc bs hf hH hl hB
    refine lv_aload_n hx hb dX6_init_0 rfl (lv_at hl 0 rfl) ?_
    refine q_objInit X hl tw_71 tw_64 tw_o ⟨Nat.le_of_ble_eq_true rfl, Nat.le_of_ble_eq_true rfl⟩ (Nat.le_of_ble_eq_true rfl) dX6_init_1 ?_
    refine lv_aload_n hx hb dX6_init_4 rfl (lv_at hl 0 rfl) ?_
    refine lv_bipush (v := 81) hx hb dX6_init_5 (by decide) ?_
    refine q_newa (t := 0) (atype := .int) (ty := .int) X hH hB hf tw_98 rfl rfl (fun C h => by cases h) (fun N cA => rfl) (by decide) dX6_init_7 (fun q1 S2 bc3 bs4 hf H locs cells slots hH hB => ?_)
    refine q_putF (T := TX6) (N := 6) (ty0 := tyX6) (ty := tyX6 0) X hH hf iw_X6 tyX6_ok nmX6 rfl (by decide) tw_72 (fun _ h => h) rfl hnm rfl (tyX6_ok 0 (by decide)) rfl rfl dX6_init_9 (fun S5 hf H locs hH => ?_)
    refine lv_aload_n hx hb dX6_init_12 rfl (lv_at hl 0 rfl) ?_
    refine lv_iconst (v := 0) hx hb dX6_init_13 (by decide) ?_
    refine q_putV (T := TX6) (N := 6) (ty0 := tyX6) (ty := tyX6 1) X hH hf iw_X6 tyX6_ok nmX6 rfl (by decide) tw_73 (fun _ h => h) rfl (tyX6_ok 1 (by decide)) rfl rfl dX6_init_14 (fun S6 hf H locs hH => ?_)
    refine lv_aload_n hx hb dX6_init_17 rfl (lv_at hl 0 rfl) ?_
    refine lv_iconst (v := 0) hx hb dX6_init_18 (by decide) ?_
    refine q_putV (T := TX6) (N := 6) (ty0 := tyX6) (ty := tyX6 2) X hH hf iw_X6 tyX6_ok nmX6 rfl (by decide) tw_77 (fun _ h => h) rfl (tyX6_ok 2 (by decide)) rfl rfl dX6_init_19 (fun S7 hf H locs hH => ?_)
    refine lv_aload_n hx hb dX6_init_22 rfl (lv_at hl 0 rfl) ?_
    refine lv_iconst (v := 0) hx hb dX6_init_23 (by decide) ?_
    refine q_putV (T := TX6) (N := 6) (ty0 := tyX6) (ty := tyX6 3) X hH hf iw_X6 tyX6_ok nmX6 rfl (by decide) tw_79 (fun _ h => h) rfl (tyX6_ok 3 (by decide)) rfl rfl dX6_init_24 (fun S8 hf H locs hH => ?_)
    refine lv_aload_n hx hb dX6_init_27 rfl (lv_at hl 0 rfl) ?_
    refine lv_iconst (v := 0) hx hb dX6_init_28 (by decide) ?_
    refine q_putV (T := TX6) (N := 6) (ty0 := tyX6) (ty := tyX6 4) X hH hf iw_X6 tyX6_ok nmX6 rfl (by decide) tw_81 (fun _ h => h) rfl (tyX6_ok 4 (by decide)) rfl rfl dX6_init_29 (fun S9 hf H locs hH => ?_)
    refine lv_aload_n hx hb dX6_init_32 rfl (lv_at hl 0 rfl) ?_
    refine lv_iconst (v := 0) hx hb dX6_init_33 (by decide) ?_
    refine q_putV (T := TX6) (N := 6) (ty0 := tyX6) (ty := tyX6 5) X hH hf iw_X6 tyX6_ok nmX6 rfl (by decide) tw_83 (fun _ h => h) rfl (tyX6_ok 5 (by decide)) rfl rfl dX6_init_34 (fun S10 hf H locs hH => ?_)
    exact q_retV X hH hr hlk hf (Nat.le_trans (Nat.le_add_right _ _) hB.1) (Nat.le_trans (Nat.le_add_right _ _) hB.2) dX6_init_37
  exact main s.heap [] ls 0 0 mc ms hf hH hl ⟨by omega, by omega⟩
-- X6_copyFrom
def f_X6_copyFrom (S : PS) (a0 : Nat) (a1 : Nat) (post : PS → Prop) : Prop :=
  gR S a1 10 0 fun v1 => (
  gR S a0 10 0 fun v2 => (
  gR S a0 10 0 fun v3 => (
  lE S v3 fun v4 => (
  cpI S v1 0 v2 0 v4 fun S5 => (
  gI S5 a1 10 1 fun v6 => (
  pV S5 a0 10 1 (.int v6) fun S7 => (
  gI S7 a1 10 2 fun v8 => (
  pV S7 a0 10 2 (.int v8) fun S9 => (
  gI S9 a1 10 3 fun v10 => (
  pV S9 a0 10 3 (.int v10) fun S11 => (
  gI S11 a1 10 4 fun v12 => (
  pV S11 a0 10 4 (.int v12) fun S13 => (
  gI S13 a1 10 5 fun v14 => (
  pV S13 a0 10 5 (.int v14) fun S15 => (
  post S15)))))))))))))))
abbrev rm_X6_copyFrom : Room := { frames := 1, cells := 0, slots := 0, locals := 60 }
set_option maxHeartbeats 4000000 in
set_option maxRecDepth 100000 in
theorem c_X6_copyFrom (l : Launch) (D : va_G) (cy : Nat → ClassId) (G : p_GT) (hG : p_ok G) (S : PS) (a0 : Nat) (a1 : Nat) (post : PS → Prop) (sz : Nat) (hf : f_X6_copyFrom S a0 a1 post) : p_Mv l D cy G S sz yX6_copyFrom (Cond.code yX6_copyFrom cX6_copyFrom 2 none :: wG) rm_X6_copyFrom [.ref a0, .ref a1] 0 0 post := by
  refine q_start hG (Qc := fun A => va_Qv post (p_Post D cy A) A) mf_X6_copyFrom (Nat.le_of_ble_eq_true rfl) (own := RX6) rfl ?_
  intro p e s m below meth c A X hr hlk hnm ls hl hH
  have hx := X.1.1
  have hb := X.1.2.1
  replace hl : lv_has ls 2 [(0, .ref a0), (1, .ref a1)] := hl
  obtain ⟨H, hHe⟩ : ∃ H, H = s.heap := ⟨_, rfl⟩
  obtain ⟨locs, hlo⟩ : ∃ locs : List Loc, locs = [] := ⟨_, rfl⟩
  rw [← hHe, ← hlo] at hH
  show W p l e rm_X6_copyFrom s m [.ref a0, .ref a1].toArray below meth c s.heap [] 0 0 _ _
  rw [← hHe, ← hlo]
  refine lv_aload_n hx hb dX6_copyFrom_0 rfl (lv_at hl 1 rfl) ?_
  refine q_getR (T := TX6) (N := 6) X hH hf iw_X6 rfl (by decide) tw_72 (fun _ h => h) dX6_copyFrom_1 (fun v1 hf => ?_)
  refine lv_iconst (v := 0) hx hb dX6_copyFrom_4 (by decide) ?_
  refine lv_aload_n hx hb dX6_copyFrom_5 rfl (lv_at hl 0 rfl) ?_
  refine q_getR (T := TX6) (N := 6) X hH hf iw_X6 rfl (by decide) tw_72 (fun _ h => h) dX6_copyFrom_6 (fun v2 hf => ?_)
  refine lv_iconst (v := 0) hx hb dX6_copyFrom_9 (by decide) ?_
  refine lv_aload_n hx hb dX6_copyFrom_10 rfl (lv_at hl 0 rfl) ?_
  refine q_getR (T := TX6) (N := 6) X hH hf iw_X6 rfl (by decide) tw_72 (fun _ h => h) dX6_copyFrom_11 (fun v3 hf => ?_)
  refine q_alen X hH hf dX6_copyFrom_14 (fun v4 hf => ?_)
  refine q_copyi X hH hl hf tw_1038 tw_703 tw_702 tw_46 ⟨Nat.le_of_ble_eq_true rfl, Nat.le_of_ble_eq_true rfl⟩ (Nat.le_of_ble_eq_true rfl) dX6_copyFrom_15 (fun S5 hf H locs hH => ?_)
  refine lv_aload_n hx hb dX6_copyFrom_18 rfl (lv_at hl 0 rfl) ?_
  refine lv_aload_n hx hb dX6_copyFrom_19 rfl (lv_at hl 1 rfl) ?_
  refine q_getI (T := TX6) (N := 6) X hH hf iw_X6 rfl (by decide) tw_73 (fun _ h => h) dX6_copyFrom_20 (fun v6 hf => ?_)
  refine q_putV (T := TX6) (N := 6) (ty0 := tyX6) (ty := tyX6 1) X hH hf iw_X6 tyX6_ok nmX6 rfl (by decide) tw_73 (fun _ h => h) rfl (tyX6_ok 1 (by decide)) rfl rfl dX6_copyFrom_23 (fun S7 hf H locs hH => ?_)
  refine lv_aload_n hx hb dX6_copyFrom_26 rfl (lv_at hl 0 rfl) ?_
  refine lv_aload_n hx hb dX6_copyFrom_27 rfl (lv_at hl 1 rfl) ?_
  refine q_getI (T := TX6) (N := 6) X hH hf iw_X6 rfl (by decide) tw_77 (fun _ h => h) dX6_copyFrom_28 (fun v8 hf => ?_)
  refine q_putV (T := TX6) (N := 6) (ty0 := tyX6) (ty := tyX6 2) X hH hf iw_X6 tyX6_ok nmX6 rfl (by decide) tw_77 (fun _ h => h) rfl (tyX6_ok 2 (by decide)) rfl rfl dX6_copyFrom_31 (fun S9 hf H locs hH => ?_)
  refine lv_aload_n hx hb dX6_copyFrom_34 rfl (lv_at hl 0 rfl) ?_
  refine lv_aload_n hx hb dX6_copyFrom_35 rfl (lv_at hl 1 rfl) ?_
  refine q_getI (T := TX6) (N := 6) X hH hf iw_X6 rfl (by decide) tw_79 (fun _ h => h) dX6_copyFrom_36 (fun v10 hf => ?_)
  refine q_putV (T := TX6) (N := 6) (ty0 := tyX6) (ty := tyX6 3) X hH hf iw_X6 tyX6_ok nmX6 rfl (by decide) tw_79 (fun _ h => h) rfl (tyX6_ok 3 (by decide)) rfl rfl dX6_copyFrom_39 (fun S11 hf H locs hH => ?_)
  refine lv_aload_n hx hb dX6_copyFrom_42 rfl (lv_at hl 0 rfl) ?_
  refine lv_aload_n hx hb dX6_copyFrom_43 rfl (lv_at hl 1 rfl) ?_
  refine q_getI (T := TX6) (N := 6) X hH hf iw_X6 rfl (by decide) tw_81 (fun _ h => h) dX6_copyFrom_44 (fun v12 hf => ?_)
  refine q_putV (T := TX6) (N := 6) (ty0 := tyX6) (ty := tyX6 4) X hH hf iw_X6 tyX6_ok nmX6 rfl (by decide) tw_81 (fun _ h => h) rfl (tyX6_ok 4 (by decide)) rfl rfl dX6_copyFrom_47 (fun S13 hf H locs hH => ?_)
  refine lv_aload_n hx hb dX6_copyFrom_50 rfl (lv_at hl 0 rfl) ?_
  refine lv_aload_n hx hb dX6_copyFrom_51 rfl (lv_at hl 1 rfl) ?_
  refine q_getI (T := TX6) (N := 6) X hH hf iw_X6 rfl (by decide) tw_83 (fun _ h => h) dX6_copyFrom_52 (fun v14 hf => ?_)
  refine q_putV (T := TX6) (N := 6) (ty0 := tyX6) (ty := tyX6 5) X hH hf iw_X6 tyX6_ok nmX6 rfl (by decide) tw_83 (fun _ h => h) rfl (tyX6_ok 5 (by decide)) rfl rfl dX6_copyFrom_55 (fun S15 hf H locs hH => ?_)
  exact q_retV X hH hr hlk hf (Nat.zero_le _) (Nat.zero_le _) dX6_copyFrom_58
-- X6_has
def f_X6_has (S : PS) (a0 : Nat) (a1 : Int32) (post : Int32 → PS → Prop) : Prop :=
  if a1 < 0 then
    nZ .boolean 0 (post 0 S)
  else
    gI S a0 10 1 fun v2 => (
    if v2 ≤ a1 then
      nZ .boolean 0 (post 0 S)
    else
      nZ .boolean 1 (post 1 S))
abbrev rm_X6_has : Room := { frames := 0, cells := 0, slots := 0, locals := 0 }
set_option maxHeartbeats 4000000 in
set_option maxRecDepth 100000 in
theorem c_X6_has (l : Launch) (D : va_G) (cy : Nat → ClassId) (G : p_GT) (hG : p_ok G) (S : PS) (a0 : Nat) (a1 : Int32) (post : Int32 → PS → Prop) (sz : Nat) (hf : f_X6_has S a0 a1 post) : p_Mi l D cy G S sz yX6_has (Cond.code yX6_has cX6_has 2 (some .boolean) :: wG) rm_X6_has [.ref a0, .int a1] 0 0 post := by
  refine q_start hG (Qc := fun A => va_Qi post (p_Post D cy A) A) mf_X6_has (Nat.le_of_ble_eq_true rfl) (own := RX6) rfl ?_
  intro p e s m below meth c A X hr hlk hnm ls hl hH
  have hx := X.1.1
  have hb := X.1.2.1
  replace hl : lv_has ls 2 [(0, .ref a0), (1, .int a1)] := hl
  obtain ⟨H, hHe⟩ : ∃ H, H = s.heap := ⟨_, rfl⟩
  obtain ⟨locs, hlo⟩ : ∃ locs : List Loc, locs = [] := ⟨_, rfl⟩
  rw [← hHe, ← hlo] at hH
  show W p l e rm_X6_has s m [.ref a0, .int a1].toArray below meth c s.heap [] 0 0 _ _
  rw [← hHe, ← hlo]
  refine lv_iload_n hx hb dX6_has_0 rfl (lv_at hl 1 rfl) ?_
  refine lv_if_lt (tgt := 16) hx hb dX6_has_1 (by decide) (fun c1 => ?_) (fun c1 => ?_)
  · have hf := (if_pos c1).mp hf
    refine lv_iconst (v := 0) hx hb dX6_has_16 (by decide) ?_
    exact q_retZ X hH hr hlk hf (Nat.zero_le _) (Nat.zero_le _) dX6_has_17
  · have hf := (if_neg c1).mp hf
    refine lv_iload_n hx hb dX6_has_4 rfl (lv_at hl 1 rfl) ?_
    refine lv_aload_n hx hb dX6_has_5 rfl (lv_at hl 0 rfl) ?_
    refine q_getI (T := TX6) (N := 6) X hH hf iw_X6 rfl (by decide) tw_73 (fun _ h => h) dX6_has_6 (fun v2 hf => ?_)
    refine lv_icmp_ge (tgt := 16) hx hb dX6_has_9 (by decide) (fun c3 => ?_) (fun c3 => ?_)
    · have hf := (if_pos c3).mp hf
      refine lv_iconst (v := 0) hx hb dX6_has_16 (by decide) ?_
      exact q_retZ X hH hr hlk hf (Nat.zero_le _) (Nat.zero_le _) dX6_has_17
    · have hf := (if_neg c3).mp hf
      refine lv_iconst (v := 1) hx hb dX6_has_12 (by decide) ?_
      refine lv_goto (tgt := 17) hx hb dX6_has_13 (by decide) ?_
      exact q_retZ X hH hr hlk hf (Nat.zero_le _) (Nat.zero_le _) dX6_has_17
-- X6_everyone
def f_X6_everyone (S : PS) (a0 : Nat) (post : Int32 → PS → Prop) : Prop :=
  gI S a0 10 1 fun v1 => (
  post (((1 : Int32) <<< (v1 &&& 31)) - 1) S)
abbrev rm_X6_everyone : Room := { frames := 0, cells := 0, slots := 0, locals := 0 }
set_option maxHeartbeats 4000000 in
set_option maxRecDepth 100000 in
theorem c_X6_everyone (l : Launch) (D : va_G) (cy : Nat → ClassId) (G : p_GT) (hG : p_ok G) (S : PS) (a0 : Nat) (post : Int32 → PS → Prop) (sz : Nat) (hf : f_X6_everyone S a0 post) : p_Mi l D cy G S sz yX6_everyone (Cond.code yX6_everyone cX6_everyone 1 (some .int) :: wG) rm_X6_everyone [.ref a0] 0 0 post := by
  refine q_start hG (Qc := fun A => va_Qi post (p_Post D cy A) A) mf_X6_everyone (Nat.le_of_ble_eq_true rfl) (own := RX6) rfl ?_
  intro p e s m below meth c A X hr hlk hnm ls hl hH
  have hx := X.1.1
  have hb := X.1.2.1
  replace hl : lv_has ls 1 [(0, .ref a0)] := hl
  obtain ⟨H, hHe⟩ : ∃ H, H = s.heap := ⟨_, rfl⟩
  obtain ⟨locs, hlo⟩ : ∃ locs : List Loc, locs = [] := ⟨_, rfl⟩
  rw [← hHe, ← hlo] at hH
  show W p l e rm_X6_everyone s m [.ref a0].toArray below meth c s.heap [] 0 0 _ _
  rw [← hHe, ← hlo]
  refine lv_iconst (v := 1) hx hb dX6_everyone_0 (by decide) ?_
  refine lv_aload_n hx hb dX6_everyone_1 rfl (lv_at hl 0 rfl) ?_
  refine q_getI (T := TX6) (N := 6) X hH hf iw_X6 rfl (by decide) tw_73 (fun _ h => h) dX6_everyone_2 (fun v1 hf => ?_)
  refine lv_ishl hx hb dX6_everyone_5 ?_
  refine lv_iconst (v := 1) hx hb dX6_everyone_6 (by decide) ?_
  refine lv_isub hx hb dX6_everyone_7 ?_
  exact q_retI X hH hr hlk hf (Nat.zero_le _) (Nat.zero_le _) dX6_everyone_8
-- X6_phaseCount
def f_X6_phaseCount (S : PS) (a0 : Nat) (post : Int32 → PS → Prop) : Prop :=
  gI S a0 10 1 fun v1 => (
  if 2 ≤ v1 then
    gI S a0 10 1 fun v3 => (
    post (v3 - 1) S)
  else
    post 0 S)
abbrev rm_X6_phaseCount : Room := { frames := 0, cells := 0, slots := 0, locals := 0 }
set_option maxHeartbeats 4000000 in
set_option maxRecDepth 100000 in
theorem c_X6_phaseCount (l : Launch) (D : va_G) (cy : Nat → ClassId) (G : p_GT) (hG : p_ok G) (S : PS) (a0 : Nat) (post : Int32 → PS → Prop) (sz : Nat) (hf : f_X6_phaseCount S a0 post) : p_Mi l D cy G S sz yX6_phaseCount (Cond.code yX6_phaseCount cX6_phaseCount 1 (some .int) :: wG) rm_X6_phaseCount [.ref a0] 0 0 post := by
  refine q_start hG (Qc := fun A => va_Qi post (p_Post D cy A) A) mf_X6_phaseCount (Nat.le_of_ble_eq_true rfl) (own := RX6) rfl ?_
  intro p e s m below meth c A X hr hlk hnm ls hl hH
  have hx := X.1.1
  have hb := X.1.2.1
  replace hl : lv_has ls 1 [(0, .ref a0)] := hl
  obtain ⟨H, hHe⟩ : ∃ H, H = s.heap := ⟨_, rfl⟩
  obtain ⟨locs, hlo⟩ : ∃ locs : List Loc, locs = [] := ⟨_, rfl⟩
  rw [← hHe, ← hlo] at hH
  show W p l e rm_X6_phaseCount s m [.ref a0].toArray below meth c s.heap [] 0 0 _ _
  rw [← hHe, ← hlo]
  refine lv_aload_n hx hb dX6_phaseCount_0 rfl (lv_at hl 0 rfl) ?_
  refine q_getI (T := TX6) (N := 6) X hH hf iw_X6 rfl (by decide) tw_73 (fun _ h => h) dX6_phaseCount_1 (fun v1 hf => ?_)
  refine lv_iconst (v := 2) hx hb dX6_phaseCount_4 (by decide) ?_
  refine lv_icmp_ge (tgt := 12) hx hb dX6_phaseCount_5 (by decide) (fun c2 => ?_) (fun c2 => ?_)
  · have hf := (if_pos c2).mp hf
    refine lv_aload_n hx hb dX6_phaseCount_12 rfl (lv_at hl 0 rfl) ?_
    refine q_getI (T := TX6) (N := 6) X hH hf iw_X6 rfl (by decide) tw_73 (fun _ h => h) dX6_phaseCount_13 (fun v3 hf => ?_)
    refine lv_iconst (v := 1) hx hb dX6_phaseCount_16 (by decide) ?_
    refine lv_isub hx hb dX6_phaseCount_17 ?_
    exact q_retI X hH hr hlk hf (Nat.zero_le _) (Nat.zero_le _) dX6_phaseCount_18
  · have hf := (if_neg c2).mp hf
    refine lv_iconst (v := 0) hx hb dX6_phaseCount_8 (by decide) ?_
    refine lv_goto (tgt := 18) hx hb dX6_phaseCount_9 (by decide) ?_
    exact q_retI X hH hr hlk hf (Nat.zero_le _) (Nat.zero_le _) dX6_phaseCount_18
-- X6_tie
def f_X6_tie (S : PS) (a0 : Nat) (a1 : Int32) (a2 : Int32) (post : Int32 → PS → Prop) : Prop :=
  isO S a0 10 (
  f_X6_has S a0 a1 fun v2 S1 => (
  if v2 = 0 then
    post 0 S1
  else
    isO S1 a0 10 (
    f_X6_has S1 a0 a2 fun v5 S4 => (
    if v5 = 0 then
      post 0 S4
    else
      gR S4 a0 10 0 fun v7 => (
      aI S4 v7 0 ((a1 * 9) + a2) fun v8 => (
      post v8 S4))))))
abbrev rm_X6_tie : Room := { frames := 1, cells := 0, slots := 0, locals := 21 }
set_option maxHeartbeats 4000000 in
set_option maxRecDepth 100000 in
theorem c_X6_tie (l : Launch) (D : va_G) (cy : Nat → ClassId) (G : p_GT) (hG : p_ok G) (S : PS) (a0 : Nat) (a1 : Int32) (a2 : Int32) (post : Int32 → PS → Prop) (sz : Nat) (hf : f_X6_tie S a0 a1 a2 post) : p_Mi l D cy G S sz yX6_tie (Cond.code yX6_tie cX6_tie 3 (some .int) :: wG) rm_X6_tie [.ref a0, .int a1, .int a2] 0 0 post := by
  refine q_start hG (Qc := fun A => va_Qi post (p_Post D cy A) A) mf_X6_tie (Nat.le_of_ble_eq_true rfl) (own := RX6) rfl ?_
  intro p e s m below meth c A X hr hlk hnm ls hl hH
  have hx := X.1.1
  have hb := X.1.2.1
  replace hl : lv_has ls 3 [(0, .ref a0), (1, .int a1), (2, .int a2)] := hl
  obtain ⟨H, hHe⟩ : ∃ H, H = s.heap := ⟨_, rfl⟩
  obtain ⟨locs, hlo⟩ : ∃ locs : List Loc, locs = [] := ⟨_, rfl⟩
  rw [← hHe, ← hlo] at hH
  show W p l e rm_X6_tie s m [.ref a0, .int a1, .int a2].toArray below meth c s.heap [] 0 0 _ _
  rw [← hHe, ← hlo]
  refine lv_aload_n hx hb dX6_tie_0 rfl (lv_at hl 0 rfl) ?_
  refine lv_iload_n hx hb dX6_tie_1 rfl (lv_at hl 1 rfl) ?_
  obtain ⟨hb1, hb2, hf⟩ := hf
  refine q_backI0 X hH (q_runV [.int a1] [] X hH hl (c_X6_has l D cy G X.2.2.2.1 S a0 a1 _ _ hf) mf_X6_has mv_X6_has tw_382 ⟨Nat.le_of_ble_eq_true rfl, Nat.le_of_ble_eq_true rfl⟩ hb1 hb2 (T := TX6) (N := 6) rfl rfl (Nat.le_of_ble_eq_true rfl) dX6_tie_2 ⟨Nat.le_of_ble_eq_true rfl, Nat.le_of_ble_eq_true rfl⟩) (fun v2 S1 hf H locs hH => ?_)
  refine lv_if_eq (tgt := 30) hx hb dX6_tie_5 (by decide) (fun c3 => ?_) (fun c3 => ?_)
  · have hf := (if_pos c3).mp hf
    refine lv_iconst (v := 0) hx hb dX6_tie_30 (by decide) ?_
    exact q_retI X hH hr hlk hf (Nat.zero_le _) (Nat.zero_le _) dX6_tie_31
  · have hf := (if_neg c3).mp hf
    refine lv_aload_n hx hb dX6_tie_8 rfl (lv_at hl 0 rfl) ?_
    refine lv_iload_n hx hb dX6_tie_9 rfl (lv_at hl 2 rfl) ?_
    obtain ⟨hb1, hb2, hf⟩ := hf
    refine q_backI0 X hH (q_runV [.int a2] [] X hH hl (c_X6_has l D cy G X.2.2.2.1 S1 a0 a2 _ _ hf) mf_X6_has mv_X6_has tw_382 ⟨Nat.le_of_ble_eq_true rfl, Nat.le_of_ble_eq_true rfl⟩ hb1 hb2 (T := TX6) (N := 6) rfl rfl (Nat.le_of_ble_eq_true rfl) dX6_tie_10 ⟨Nat.le_of_ble_eq_true rfl, Nat.le_of_ble_eq_true rfl⟩) (fun v5 S4 hf H locs hH => ?_)
    refine lv_if_eq (tgt := 30) hx hb dX6_tie_13 (by decide) (fun c6 => ?_) (fun c6 => ?_)
    · have hf := (if_pos c6).mp hf
      refine lv_iconst (v := 0) hx hb dX6_tie_30 (by decide) ?_
      exact q_retI X hH hr hlk hf (Nat.zero_le _) (Nat.zero_le _) dX6_tie_31
    · have hf := (if_neg c6).mp hf
      refine lv_aload_n hx hb dX6_tie_16 rfl (lv_at hl 0 rfl) ?_
      refine q_getR (T := TX6) (N := 6) X hH hf iw_X6 rfl (by decide) tw_72 (fun _ h => h) dX6_tie_17 (fun v7 hf => ?_)
      refine lv_iload_n hx hb dX6_tie_20 rfl (lv_at hl 1 rfl) ?_
      refine lv_bipush (v := 9) hx hb dX6_tie_21 (by decide) ?_
      refine lv_imul hx hb dX6_tie_23 ?_
      refine lv_iload_n hx hb dX6_tie_24 rfl (lv_at hl 2 rfl) ?_
      refine lv_iadd hx hb dX6_tie_25 ?_
      refine q_iald X hH hf dX6_tie_26 (fun v8 hf => ?_)
      refine lv_goto (tgt := 31) hx hb dX6_tie_27 (by decide) ?_
      exact q_retI X hH hr hlk hf (Nat.zero_le _) (Nat.zero_le _) dX6_tie_31
-- X6_welcome
def f_X6_welcome_J29 (post : Int32 → PS → Prop) (S : PS) (l0 : Nat) : Prop :=
  gI S l0 10 1 fun v1 => (
  post (v1 - 1) S)
def f_X6_welcome (S : PS) (a0 : Nat) (post : Int32 → PS → Prop) : Prop :=
  gI S a0 10 1 fun v1 => (
  if 9 ≤ v1 then
    f_X6_welcome_J29 post S a0
  else
    gI S a0 10 1 fun v3 => (
    pV S a0 10 1 (.int (v3 + 1)) fun S4 => (
    gI S4 a0 10 3 fun v5 => (
    pV S4 a0 10 3 (.int (v5 + 1)) fun S6 => (
    f_X6_welcome_J29 post S6 a0)))))
abbrev rm_X6_welcome : Room := { frames := 0, cells := 0, slots := 0, locals := 0 }
set_option maxHeartbeats 4000000 in
set_option maxRecDepth 100000 in
theorem c_X6_welcome (l : Launch) (D : va_G) (cy : Nat → ClassId) (G : p_GT) (hG : p_ok G) (S : PS) (a0 : Nat) (post : Int32 → PS → Prop) (sz : Nat) (hf : f_X6_welcome S a0 post) : p_Mi l D cy G S sz yX6_welcome (Cond.code yX6_welcome cX6_welcome 1 (some .int) :: wG) rm_X6_welcome [.ref a0] 0 0 post := by
  refine q_start hG (Qc := fun A => va_Qi post (p_Post D cy A) A) mf_X6_welcome (Nat.le_of_ble_eq_true rfl) (own := RX6) rfl ?_
  intro p e s m below meth c A X hr hlk hnm ls hl hH
  have hx := X.1.1
  have hb := X.1.2.1
  replace hl : lv_has ls 1 [(0, .ref a0)] := hl
  obtain ⟨H, hHe⟩ : ∃ H, H = s.heap := ⟨_, rfl⟩
  obtain ⟨locs, hlo⟩ : ∃ locs : List Loc, locs = [] := ⟨_, rfl⟩
  rw [← hHe, ← hlo] at hH
  show W p l e rm_X6_welcome s m [.ref a0].toArray below meth c s.heap [] 0 0 _ _
  rw [← hHe, ← hlo]
  have hJ29 : ∀ (S : PS) (l0 : Nat), f_X6_welcome_J29 post S l0 → ∀ (H : Heap) (locs : List Loc) (ls : Array Slot), p_H D cy S A s H locs → lv_has ls 1 [(0, .ref l0)] → W p l e rm_X6_welcome s m [.ref a0].toArray below meth c H locs 0 0 (MQ below (va_Qi post (p_Post D cy A) A) [.ref a0].toArray s 0 0 A) (F0 m 29 ls []) := by
    intro S l0 hf H locs ls hH hl
    refine lv_aload_n hx hb dX6_welcome_29 rfl (lv_at hl 0 rfl) ?_
    refine q_getI (T := TX6) (N := 6) X hH hf iw_X6 rfl (by decide) tw_73 (fun _ h => h) dX6_welcome_30 (fun v1 hf => ?_)
    refine lv_iconst (v := 1) hx hb dX6_welcome_33 (by decide) ?_
    refine lv_isub hx hb dX6_welcome_34 ?_
    exact q_retI X hH hr hlk hf (Nat.zero_le _) (Nat.zero_le _) dX6_welcome_35
  refine lv_aload_n hx hb dX6_welcome_0 rfl (lv_at hl 0 rfl) ?_
  refine q_getI (T := TX6) (N := 6) X hH hf iw_X6 rfl (by decide) tw_73 (fun _ h => h) dX6_welcome_1 (fun v1 hf => ?_)
  refine lv_bipush (v := 9) hx hb dX6_welcome_4 (by decide) ?_
  refine lv_icmp_ge (tgt := 29) hx hb dX6_welcome_6 (by decide) (fun c2 => ?_) (fun c2 => ?_)
  · have hf := (if_pos c2).mp hf
    exact hJ29 S a0 hf H locs ls hH hl
  · have hf := (if_neg c2).mp hf
    refine lv_aload_n hx hb dX6_welcome_9 rfl (lv_at hl 0 rfl) ?_
    refine lv_dup hx hb dX6_welcome_10 rfl ?_
    refine q_getI (T := TX6) (N := 6) X hH hf iw_X6 rfl (by decide) tw_73 (fun _ h => h) dX6_welcome_11 (fun v3 hf => ?_)
    refine lv_iconst (v := 1) hx hb dX6_welcome_14 (by decide) ?_
    refine lv_iadd hx hb dX6_welcome_15 ?_
    refine q_putV (T := TX6) (N := 6) (ty0 := tyX6) (ty := tyX6 1) X hH hf iw_X6 tyX6_ok nmX6 rfl (by decide) tw_73 (fun _ h => h) rfl (tyX6_ok 1 (by decide)) rfl rfl dX6_welcome_16 (fun S4 hf H locs hH => ?_)
    refine lv_aload_n hx hb dX6_welcome_19 rfl (lv_at hl 0 rfl) ?_
    refine lv_dup hx hb dX6_welcome_20 rfl ?_
    refine q_getI (T := TX6) (N := 6) X hH hf iw_X6 rfl (by decide) tw_79 (fun _ h => h) dX6_welcome_21 (fun v5 hf => ?_)
    refine lv_iconst (v := 1) hx hb dX6_welcome_24 (by decide) ?_
    refine lv_iadd hx hb dX6_welcome_25 ?_
    refine q_putV (T := TX6) (N := 6) (ty0 := tyX6) (ty := tyX6 3) X hH hf iw_X6 tyX6_ok nmX6 rfl (by decide) tw_79 (fun _ h => h) rfl (tyX6_ok 3 (by decide)) rfl rfl dX6_welcome_26 (fun S6 hf H locs hH => ?_)
    exact hJ29 S6 a0 hf H locs ls hH hl
-- X6_setTie
def f_X6_setTie (S : PS) (a0 : Nat) (a1 : Int32) (a2 : Int32) (a3 : Int32) (post : PS → Prop) : Prop :=
  isO S a0 10 (
  f_X6_has S a0 a1 fun v2 S1 => (
  if v2 = 0 then
    post S1
  else
    isO S1 a0 10 (
    f_X6_has S1 a0 a2 fun v5 S4 => (
    if v5 = 0 then
      post S4
    else
      gR S4 a0 10 0 fun v7 => (
      sI S4 v7 0 ((a1 * 9) + a2) a3 fun S8 => (
      gR S8 a0 10 0 fun v9 => (
      sI S8 v9 0 ((a2 * 9) + a1) a3 fun S10 => (
      post S10))))))))
abbrev rm_X6_setTie : Room := { frames := 1, cells := 0, slots := 0, locals := 21 }
set_option maxHeartbeats 4000000 in
set_option maxRecDepth 100000 in
theorem c_X6_setTie (l : Launch) (D : va_G) (cy : Nat → ClassId) (G : p_GT) (hG : p_ok G) (S : PS) (a0 : Nat) (a1 : Int32) (a2 : Int32) (a3 : Int32) (post : PS → Prop) (sz : Nat) (hf : f_X6_setTie S a0 a1 a2 a3 post) : p_Mv l D cy G S sz yX6_setTie (Cond.code yX6_setTie cX6_setTie 4 none :: wG) rm_X6_setTie [.ref a0, .int a1, .int a2, .int a3] 0 0 post := by
  refine q_start hG (Qc := fun A => va_Qv post (p_Post D cy A) A) mf_X6_setTie (Nat.le_of_ble_eq_true rfl) (own := RX6) rfl ?_
  intro p e s m below meth c A X hr hlk hnm ls hl hH
  have hx := X.1.1
  have hb := X.1.2.1
  replace hl : lv_has ls 4 [(0, .ref a0), (1, .int a1), (2, .int a2), (3, .int a3)] := hl
  obtain ⟨H, hHe⟩ : ∃ H, H = s.heap := ⟨_, rfl⟩
  obtain ⟨locs, hlo⟩ : ∃ locs : List Loc, locs = [] := ⟨_, rfl⟩
  rw [← hHe, ← hlo] at hH
  show W p l e rm_X6_setTie s m [.ref a0, .int a1, .int a2, .int a3].toArray below meth c s.heap [] 0 0 _ _
  rw [← hHe, ← hlo]
  refine lv_aload_n hx hb dX6_setTie_0 rfl (lv_at hl 0 rfl) ?_
  refine lv_iload_n hx hb dX6_setTie_1 rfl (lv_at hl 1 rfl) ?_
  obtain ⟨hb1, hb2, hf⟩ := hf
  refine q_backI0 X hH (q_runV [.int a1] [] X hH hl (c_X6_has l D cy G X.2.2.2.1 S a0 a1 _ _ hf) mf_X6_has mv_X6_has tw_382 ⟨Nat.le_of_ble_eq_true rfl, Nat.le_of_ble_eq_true rfl⟩ hb1 hb2 (T := TX6) (N := 6) rfl rfl (Nat.le_of_ble_eq_true rfl) dX6_setTie_2 ⟨Nat.le_of_ble_eq_true rfl, Nat.le_of_ble_eq_true rfl⟩) (fun v2 S1 hf H locs hH => ?_)
  refine lv_if_eq (tgt := 40) hx hb dX6_setTie_5 (by decide) (fun c3 => ?_) (fun c3 => ?_)
  · have hf := (if_pos c3).mp hf
    exact q_retV X hH hr hlk hf (Nat.zero_le _) (Nat.zero_le _) dX6_setTie_40
  · have hf := (if_neg c3).mp hf
    refine lv_aload_n hx hb dX6_setTie_8 rfl (lv_at hl 0 rfl) ?_
    refine lv_iload_n hx hb dX6_setTie_9 rfl (lv_at hl 2 rfl) ?_
    obtain ⟨hb1, hb2, hf⟩ := hf
    refine q_backI0 X hH (q_runV [.int a2] [] X hH hl (c_X6_has l D cy G X.2.2.2.1 S1 a0 a2 _ _ hf) mf_X6_has mv_X6_has tw_382 ⟨Nat.le_of_ble_eq_true rfl, Nat.le_of_ble_eq_true rfl⟩ hb1 hb2 (T := TX6) (N := 6) rfl rfl (Nat.le_of_ble_eq_true rfl) dX6_setTie_10 ⟨Nat.le_of_ble_eq_true rfl, Nat.le_of_ble_eq_true rfl⟩) (fun v5 S4 hf H locs hH => ?_)
    refine lv_if_eq (tgt := 40) hx hb dX6_setTie_13 (by decide) (fun c6 => ?_) (fun c6 => ?_)
    · have hf := (if_pos c6).mp hf
      exact q_retV X hH hr hlk hf (Nat.zero_le _) (Nat.zero_le _) dX6_setTie_40
    · have hf := (if_neg c6).mp hf
      refine lv_aload_n hx hb dX6_setTie_16 rfl (lv_at hl 0 rfl) ?_
      refine q_getR (T := TX6) (N := 6) X hH hf iw_X6 rfl (by decide) tw_72 (fun _ h => h) dX6_setTie_17 (fun v7 hf => ?_)
      refine lv_iload_n hx hb dX6_setTie_20 rfl (lv_at hl 1 rfl) ?_
      refine lv_bipush (v := 9) hx hb dX6_setTie_21 (by decide) ?_
      refine lv_imul hx hb dX6_setTie_23 ?_
      refine lv_iload_n hx hb dX6_setTie_24 rfl (lv_at hl 2 rfl) ?_
      refine lv_iadd hx hb dX6_setTie_25 ?_
      refine lv_iload_n hx hb dX6_setTie_26 rfl (lv_at hl 3 rfl) ?_
      refine q_iast X hH hf dX6_setTie_27 (fun S8 hf H locs hH => ?_)
      refine lv_aload_n hx hb dX6_setTie_28 rfl (lv_at hl 0 rfl) ?_
      refine q_getR (T := TX6) (N := 6) X hH hf iw_X6 rfl (by decide) tw_72 (fun _ h => h) dX6_setTie_29 (fun v9 hf => ?_)
      refine lv_iload_n hx hb dX6_setTie_32 rfl (lv_at hl 2 rfl) ?_
      refine lv_bipush (v := 9) hx hb dX6_setTie_33 (by decide) ?_
      refine lv_imul hx hb dX6_setTie_35 ?_
      refine lv_iload_n hx hb dX6_setTie_36 rfl (lv_at hl 1 rfl) ?_
      refine lv_iadd hx hb dX6_setTie_37 ?_
      refine lv_iload_n hx hb dX6_setTie_38 rfl (lv_at hl 3 rfl) ?_
      refine q_iast X hH hf dX6_setTie_39 (fun S10 hf H locs hH => ?_)
      exact q_retV X hH hr hlk hf (Nat.zero_le _) (Nat.zero_le _) dX6_setTie_40
-- X6_moveTo
def f_X6_moveTo (S : PS) (a0 : Nat) (a1 : Int32) (a2 : Int32) (post : PS → Prop) : Prop :=
  isO S a0 10 (
  f_X6_has S a0 a1 fun v2 S1 => (
  if v2 = 0 then
    post S1
  else
    gI S1 a0 10 2 fun v4 => (
    if a2 = 1 then
      pV S1 a0 10 2 (.int ((v4 &&& (((1 : Int32) <<< (a1 &&& 31)) ^^^ (-1))) ||| ((1 : Int32) <<< (a1 &&& 31)))) fun S7 => (
      post S7)
    else
      pV S1 a0 10 2 (.int (v4 &&& (((1 : Int32) <<< (a1 &&& 31)) ^^^ (-1)))) fun S6 => (
      post S6))))
abbrev rm_X6_moveTo : Room := { frames := 1, cells := 0, slots := 0, locals := 21 }
set_option maxHeartbeats 4000000 in
set_option maxRecDepth 100000 in
theorem c_X6_moveTo (l : Launch) (D : va_G) (cy : Nat → ClassId) (G : p_GT) (hG : p_ok G) (S : PS) (a0 : Nat) (a1 : Int32) (a2 : Int32) (post : PS → Prop) (sz : Nat) (hf : f_X6_moveTo S a0 a1 a2 post) : p_Mv l D cy G S sz yX6_moveTo (Cond.code yX6_moveTo cX6_moveTo 4 none :: wG) rm_X6_moveTo [.ref a0, .int a1, .int a2] 0 0 post := by
  refine q_start hG (Qc := fun A => va_Qv post (p_Post D cy A) A) mf_X6_moveTo (Nat.le_of_ble_eq_true rfl) (own := RX6) rfl ?_
  intro p e s m below meth c A X hr hlk hnm ls hl hH
  have hx := X.1.1
  have hb := X.1.2.1
  replace hl : lv_has ls 4 [(0, .ref a0), (1, .int a1), (2, .int a2)] := hl
  obtain ⟨H, hHe⟩ : ∃ H, H = s.heap := ⟨_, rfl⟩
  obtain ⟨locs, hlo⟩ : ∃ locs : List Loc, locs = [] := ⟨_, rfl⟩
  rw [← hHe, ← hlo] at hH
  show W p l e rm_X6_moveTo s m [.ref a0, .int a1, .int a2].toArray below meth c s.heap [] 0 0 _ _
  rw [← hHe, ← hlo]
  refine lv_aload_n hx hb dX6_moveTo_0 rfl (lv_at hl 0 rfl) ?_
  refine lv_iload_n hx hb dX6_moveTo_1 rfl (lv_at hl 1 rfl) ?_
  obtain ⟨hb1, hb2, hf⟩ := hf
  refine q_backI0 X hH (q_runV [.int a1] [] X hH hl (c_X6_has l D cy G X.2.2.2.1 S a0 a1 _ _ hf) mf_X6_has mv_X6_has tw_382 ⟨Nat.le_of_ble_eq_true rfl, Nat.le_of_ble_eq_true rfl⟩ hb1 hb2 (T := TX6) (N := 6) rfl rfl (Nat.le_of_ble_eq_true rfl) dX6_moveTo_2 ⟨Nat.le_of_ble_eq_true rfl, Nat.le_of_ble_eq_true rfl⟩) (fun v2 S1 hf H locs hH => ?_)
  refine lv_if_eq (tgt := 37) hx hb dX6_moveTo_5 (by decide) (fun c3 => ?_) (fun c3 => ?_)
  · have hf := (if_pos c3).mp hf
    exact q_retV X hH hr hlk hf (Nat.zero_le _) (Nat.zero_le _) dX6_moveTo_37
  · have hf := (if_neg c3).mp hf
    refine lv_aload_n hx hb dX6_moveTo_8 rfl (lv_at hl 0 rfl) ?_
    refine q_getI (T := TX6) (N := 6) X hH hf iw_X6 rfl (by decide) tw_77 (fun _ h => h) dX6_moveTo_9 (fun v4 hf => ?_)
    refine lv_iconst (v := 1) hx hb dX6_moveTo_12 (by decide) ?_
    refine lv_iload_n hx hb dX6_moveTo_13 rfl (lv_at hl 1 rfl) ?_
    refine lv_ishl hx hb dX6_moveTo_14 ?_
    refine lv_iconst (v := (-1)) hx hb dX6_moveTo_15 (by decide) ?_
    refine lv_ixor hx hb dX6_moveTo_16 ?_
    refine lv_iand hx hb dX6_moveTo_17 ?_
    refine lv_istore_n (lv' := [(3, .int (v4 &&& (((1 : Int32) <<< (a1 &&& 31)) ^^^ (-1)))), (0, .ref a0), (1, .int a1), (2, .int a2)]) hx hb dX6_moveTo_18 rfl hl (by decide) rfl (fun ls hl => ?_)
    refine lv_aload_n hx hb dX6_moveTo_19 rfl (lv_at hl 1 rfl) ?_
    refine lv_iload_n hx hb dX6_moveTo_20 rfl (lv_at hl 3 rfl) ?_
    refine lv_iconst (v := 1) hx hb dX6_moveTo_21 (by decide) ?_
    refine lv_icmp_ne (tgt := 33) hx hb dX6_moveTo_22 (by decide) (fun c5 => ?_) (fun c5 => ?_)
    · have hf := (if_neg c5).mp hf
      refine lv_iload_n hx hb dX6_moveTo_33 rfl (lv_at hl 0 rfl) ?_
      refine q_putV (T := TX6) (N := 6) (ty0 := tyX6) (ty := tyX6 2) X hH hf iw_X6 tyX6_ok nmX6 rfl (by decide) tw_77 (fun _ h => h) rfl (tyX6_ok 2 (by decide)) rfl rfl dX6_moveTo_34 (fun S6 hf H locs hH => ?_)
      exact q_retV X hH hr hlk hf (Nat.zero_le _) (Nat.zero_le _) dX6_moveTo_37
    · have hf := (if_pos c5).mp hf
      refine lv_iload_n hx hb dX6_moveTo_25 rfl (lv_at hl 0 rfl) ?_
      refine lv_iconst (v := 1) hx hb dX6_moveTo_26 (by decide) ?_
      refine lv_iload_n hx hb dX6_moveTo_27 rfl (lv_at hl 2 rfl) ?_
      refine lv_ishl hx hb dX6_moveTo_28 ?_
      refine lv_ior hx hb dX6_moveTo_29 ?_
      refine lv_goto (tgt := 34) hx hb dX6_moveTo_30 (by decide) ?_
      refine q_putV (T := TX6) (N := 6) (ty0 := tyX6) (ty := tyX6 2) X hH hf iw_X6 tyX6_ok nmX6 rfl (by decide) tw_77 (fun _ h => h) rfl (tyX6_ok 2 (by decide)) rfl rfl dX6_moveTo_34 (fun S7 hf H locs hH => ?_)
      exact q_retV X hH hr hlk hf (Nat.zero_le _) (Nat.zero_le _) dX6_moveTo_37
-- X6_bondsOf
def f_X6_bondsOf_J24 (post : Int32 → PS → Prop) (g4 : PS → Nat → Int32 → Int32 → Int32 → Prop) (S : PS) (l0 : Nat) (l1 : Int32) (l2 : Int32) (l3 : Int32) : Prop :=
  g4 S l0 l1 l2 (l3 + 1)
def f_X6_bondsOf_L4 (post : Int32 → PS → Prop) : Nat → PS → Nat → Int32 → Int32 → Int32 → Prop
  | 0, _, _, _, _, _ => False
  | n + 1, S, l0, l1, l2, l3 =>
  gI S l0 10 1 fun v1 => (
  if v1 ≤ l3 then
    post l2 S
  else
    isO S l0 10 (
    f_X6_tie S l0 l1 l3 fun v4 S3 => (
    if v4 ≤ 0 then
      f_X6_bondsOf_J24 post (f_X6_bondsOf_L4 post n) S3 l0 l1 l2 l3
    else
      f_X6_bondsOf_J24 post (f_X6_bondsOf_L4 post n) S3 l0 l1 (l2 + 1) l3)))
def f_X6_bondsOf (S : PS) (a0 : Nat) (a1 : Int32) (post : Int32 → PS → Prop) : Prop :=
  f_X6_bondsOf_L4 post 4096 S a0 a1 0 0
abbrev rm_X6_bondsOf : Room := { frames := 2, cells := 0, slots := 0, locals := 43 }
set_option maxHeartbeats 4000000 in
set_option maxRecDepth 100000 in
theorem c_X6_bondsOf (l : Launch) (D : va_G) (cy : Nat → ClassId) (G : p_GT) (hG : p_ok G) (S : PS) (a0 : Nat) (a1 : Int32) (post : Int32 → PS → Prop) (sz : Nat) (hf : f_X6_bondsOf S a0 a1 post) : p_Mi l D cy G S sz yX6_bondsOf (Cond.code yX6_bondsOf cX6_bondsOf 4 (some .int) :: wG) rm_X6_bondsOf [.ref a0, .int a1] 0 0 post := by
  refine q_start hG (Qc := fun A => va_Qi post (p_Post D cy A) A) mf_X6_bondsOf (Nat.le_of_ble_eq_true rfl) (own := RX6) rfl ?_
  intro p e s m below meth c A X hr hlk hnm ls hl hH
  have hx := X.1.1
  have hb := X.1.2.1
  replace hl : lv_has ls 4 [(0, .ref a0), (1, .int a1)] := hl
  obtain ⟨H, hHe⟩ : ∃ H, H = s.heap := ⟨_, rfl⟩
  obtain ⟨locs, hlo⟩ : ∃ locs : List Loc, locs = [] := ⟨_, rfl⟩
  rw [← hHe, ← hlo] at hH
  show W p l e rm_X6_bondsOf s m [.ref a0, .int a1].toArray below meth c s.heap [] 0 0 _ _
  rw [← hHe, ← hlo]
  have hL4 : ∀ (n4 : Nat) (S : PS) (l0 : Nat) (l1 : Int32) (l2 : Int32) (l3 : Int32), f_X6_bondsOf_L4 post n4 S l0 l1 l2 l3 → ∀ (H : Heap) (locs : List Loc) (ls : Array Slot), p_H D cy S A s H locs → lv_has ls 4 [(0, .ref l0), (1, .int l1), (2, .int l2), (3, .int l3)] → W p l e rm_X6_bondsOf s m [.ref a0, .int a1].toArray below meth c H locs 0 0 (MQ below (va_Qi post (p_Post D cy A) A) [.ref a0, .int a1].toArray s 0 0 A) (F0 m 4 ls []) := by
    intro n4
    induction n4 with
    | zero => intro S l0 l1 l2 l3 hf; exact hf.elim
    | succ n4 ih4 =>
      intro S l0 l1 l2 l3 hf H locs ls hH hl
      have hJ24 : ∀ (S : PS) (l0 : Nat) (l1 : Int32) (l2 : Int32) (l3 : Int32), f_X6_bondsOf_J24 post (f_X6_bondsOf_L4 post n4) S l0 l1 l2 l3 → ∀ (H : Heap) (locs : List Loc) (ls : Array Slot), p_H D cy S A s H locs → lv_has ls 4 [(0, .ref l0), (1, .int l1), (2, .int l2), (3, .int l3)] → W p l e rm_X6_bondsOf s m [.ref a0, .int a1].toArray below meth c H locs 0 0 (MQ below (va_Qi post (p_Post D cy A) A) [.ref a0, .int a1].toArray s 0 0 A) (F0 m 24 ls []) := by
        intro S l0 l1 l2 l3 hf H locs ls hH hl
        refine lv_iinc (v := l3 + 1) (lv' := [(3, .int (l3 + 1)), (0, .ref l0), (1, .int l1), (2, .int l2)]) hx hb dX6_bondsOf_24 hl (k := 3) rfl rfl (by decide) rfl (fun ls hl => ?_)
        refine lv_goto (tgt := 4) hx hb dX6_bondsOf_27 (by decide) ?_
        exact ih4 S l0 l1 l2 (l3 + 1) hf H locs ls hH (lv_sub hl [1, 2, 3, 0] rfl)
      refine lv_iload_n hx hb dX6_bondsOf_4 rfl (lv_at hl 3 rfl) ?_
      refine lv_aload_n hx hb dX6_bondsOf_5 rfl (lv_at hl 0 rfl) ?_
      refine q_getI (T := TX6) (N := 6) X hH hf iw_X6 rfl (by decide) tw_73 (fun _ h => h) dX6_bondsOf_6 (fun v1 hf => ?_)
      refine lv_icmp_ge (tgt := 30) hx hb dX6_bondsOf_9 (by decide) (fun c2 => ?_) (fun c2 => ?_)
      · have hf := (if_pos c2).mp hf
        refine lv_iload_n hx hb dX6_bondsOf_30 rfl (lv_at hl 2 rfl) ?_
        exact q_retI X hH hr hlk hf (Nat.zero_le _) (Nat.zero_le _) dX6_bondsOf_31
      · have hf := (if_neg c2).mp hf
        refine lv_aload_n hx hb dX6_bondsOf_12 rfl (lv_at hl 0 rfl) ?_
        refine lv_iload_n hx hb dX6_bondsOf_13 rfl (lv_at hl 1 rfl) ?_
        refine lv_iload_n hx hb dX6_bondsOf_14 rfl (lv_at hl 3 rfl) ?_
        obtain ⟨hb1, hb2, hf⟩ := hf
        refine q_backI0 X hH (q_runV [.int l1, .int l3] [] X hH hl (c_X6_tie l D cy G X.2.2.2.1 S l0 l1 l3 _ _ hf) mf_X6_tie mv_X6_tie tw_378 ⟨Nat.le_of_ble_eq_true rfl, Nat.le_of_ble_eq_true rfl⟩ hb1 hb2 (T := TX6) (N := 6) rfl rfl (Nat.le_of_ble_eq_true rfl) dX6_bondsOf_15 ⟨Nat.le_of_ble_eq_true rfl, Nat.le_of_ble_eq_true rfl⟩) (fun v4 S3 hf H locs hH => ?_)
        refine lv_if_le (tgt := 24) hx hb dX6_bondsOf_18 (by decide) (fun c5 => ?_) (fun c5 => ?_)
        · have hf := (if_pos c5).mp hf
          exact hJ24 S3 l0 l1 l2 l3 hf H locs ls hH hl
        · have hf := (if_neg c5).mp hf
          refine lv_iinc (v := l2 + 1) (lv' := [(2, .int (l2 + 1)), (0, .ref l0), (1, .int l1), (3, .int l3)]) hx hb dX6_bondsOf_21 hl (k := 2) rfl rfl (by decide) rfl (fun ls hl => ?_)
          exact hJ24 S3 l0 l1 (l2 + 1) l3 hf H locs ls hH (lv_sub hl [1, 2, 0, 3] rfl)
  refine lv_iconst (v := 0) hx hb dX6_bondsOf_0 (by decide) ?_
  refine lv_istore_n (lv' := [(2, .int 0), (0, .ref a0), (1, .int a1)]) hx hb dX6_bondsOf_1 rfl hl (by decide) rfl (fun ls hl => ?_)
  refine lv_iconst (v := 0) hx hb dX6_bondsOf_2 (by decide) ?_
  refine lv_istore_n (lv' := [(3, .int 0), (2, .int 0), (0, .ref a0), (1, .int a1)]) hx hb dX6_bondsOf_3 rfl hl (by decide) rfl (fun ls hl => ?_)
  exact hL4 4096 S a0 a1 0 0 hf H locs ls hH (lv_sub hl [2, 3, 1, 0] rfl)
-- X6_closestTo
def f_X6_closestTo_J38 (post : Int32 → PS → Prop) (g7 : PS → Nat → Int32 → Int32 → Int32 → Int32 → Prop) (S : PS) (l0 : Nat) (l1 : Int32) (l2 : Int32) (l3 : Int32) (l4 : Int32) : Prop :=
  g7 S l0 l1 l2 l3 (l4 + 1)
def f_X6_closestTo_L7 (post : Int32 → PS → Prop) : Nat → PS → Nat → Int32 → Int32 → Int32 → Int32 → Prop
  | 0, _, _, _, _, _, _ => False
  | n + 1, S, l0, l1, l2, l3, l4 =>
  gI S l0 10 1 fun v1 => (
  if v1 ≤ l4 then
    post l2 S
  else
    isO S l0 10 (
    f_X6_tie S l0 l1 l4 fun v4 S3 => (
    if v4 ≤ l3 then
      f_X6_closestTo_J38 post (f_X6_closestTo_L7 post n) S3 l0 l1 l2 l3 l4
    else
      isO S3 l0 10 (
      f_X6_tie S3 l0 l1 l4 fun v7 S6 => (
      f_X6_closestTo_J38 post (f_X6_closestTo_L7 post n) S6 l0 l1 l4 v7 l4)))))
def f_X6_closestTo (S : PS) (a0 : Nat) (a1 : Int32) (post : Int32 → PS → Prop) : Prop :=
  f_X6_closestTo_L7 post 4096 S a0 a1 (-1) 0 0
abbrev rm_X6_closestTo : Room := { frames := 2, cells := 0, slots := 0, locals := 43 }
set_option maxHeartbeats 4000000 in
set_option maxRecDepth 100000 in
theorem c_X6_closestTo (l : Launch) (D : va_G) (cy : Nat → ClassId) (G : p_GT) (hG : p_ok G) (S : PS) (a0 : Nat) (a1 : Int32) (post : Int32 → PS → Prop) (sz : Nat) (hf : f_X6_closestTo S a0 a1 post) : p_Mi l D cy G S sz yX6_closestTo (Cond.code yX6_closestTo cX6_closestTo 5 (some .int) :: wG) rm_X6_closestTo [.ref a0, .int a1] 0 0 post := by
  refine q_start hG (Qc := fun A => va_Qi post (p_Post D cy A) A) mf_X6_closestTo (Nat.le_of_ble_eq_true rfl) (own := RX6) rfl ?_
  intro p e s m below meth c A X hr hlk hnm ls hl hH
  have hx := X.1.1
  have hb := X.1.2.1
  replace hl : lv_has ls 5 [(0, .ref a0), (1, .int a1)] := hl
  obtain ⟨H, hHe⟩ : ∃ H, H = s.heap := ⟨_, rfl⟩
  obtain ⟨locs, hlo⟩ : ∃ locs : List Loc, locs = [] := ⟨_, rfl⟩
  rw [← hHe, ← hlo] at hH
  show W p l e rm_X6_closestTo s m [.ref a0, .int a1].toArray below meth c s.heap [] 0 0 _ _
  rw [← hHe, ← hlo]
  have hL7 : ∀ (n7 : Nat) (S : PS) (l0 : Nat) (l1 : Int32) (l2 : Int32) (l3 : Int32) (l4 : Int32), f_X6_closestTo_L7 post n7 S l0 l1 l2 l3 l4 → ∀ (H : Heap) (locs : List Loc) (ls : Array Slot), p_H D cy S A s H locs → lv_has ls 5 [(0, .ref l0), (1, .int l1), (2, .int l2), (3, .int l3), (4, .int l4)] → W p l e rm_X6_closestTo s m [.ref a0, .int a1].toArray below meth c H locs 0 0 (MQ below (va_Qi post (p_Post D cy A) A) [.ref a0, .int a1].toArray s 0 0 A) (F0 m 7 ls []) := by
    intro n7
    induction n7 with
    | zero => intro S l0 l1 l2 l3 l4 hf; exact hf.elim
    | succ n7 ih7 =>
      intro S l0 l1 l2 l3 l4 hf H locs ls hH hl
      have hJ38 : ∀ (S : PS) (l0 : Nat) (l1 : Int32) (l2 : Int32) (l3 : Int32) (l4 : Int32), f_X6_closestTo_J38 post (f_X6_closestTo_L7 post n7) S l0 l1 l2 l3 l4 → ∀ (H : Heap) (locs : List Loc) (ls : Array Slot), p_H D cy S A s H locs → lv_has ls 5 [(0, .ref l0), (1, .int l1), (2, .int l2), (3, .int l3), (4, .int l4)] → W p l e rm_X6_closestTo s m [.ref a0, .int a1].toArray below meth c H locs 0 0 (MQ below (va_Qi post (p_Post D cy A) A) [.ref a0, .int a1].toArray s 0 0 A) (F0 m 38 ls []) := by
        intro S l0 l1 l2 l3 l4 hf H locs ls hH hl
        refine lv_iinc (v := l4 + 1) (lv' := [(4, .int (l4 + 1)), (0, .ref l0), (1, .int l1), (2, .int l2), (3, .int l3)]) hx hb dX6_closestTo_38 hl (k := 4) rfl rfl (by decide) rfl (fun ls hl => ?_)
        refine lv_goto (tgt := 7) hx hb dX6_closestTo_41 (by decide) ?_
        exact ih7 S l0 l1 l2 l3 (l4 + 1) hf H locs ls hH (lv_sub hl [1, 2, 3, 4, 0] rfl)
      refine lv_iload hx hb dX6_closestTo_7 (lv_at hl 4 rfl) ?_
      refine lv_aload_n hx hb dX6_closestTo_9 rfl (lv_at hl 0 rfl) ?_
      refine q_getI (T := TX6) (N := 6) X hH hf iw_X6 rfl (by decide) tw_73 (fun _ h => h) dX6_closestTo_10 (fun v1 hf => ?_)
      refine lv_icmp_ge (tgt := 44) hx hb dX6_closestTo_13 (by decide) (fun c2 => ?_) (fun c2 => ?_)
      · have hf := (if_pos c2).mp hf
        refine lv_iload_n hx hb dX6_closestTo_44 rfl (lv_at hl 2 rfl) ?_
        exact q_retI X hH hr hlk hf (Nat.zero_le _) (Nat.zero_le _) dX6_closestTo_45
      · have hf := (if_neg c2).mp hf
        refine lv_aload_n hx hb dX6_closestTo_16 rfl (lv_at hl 0 rfl) ?_
        refine lv_iload_n hx hb dX6_closestTo_17 rfl (lv_at hl 1 rfl) ?_
        refine lv_iload hx hb dX6_closestTo_18 (lv_at hl 4 rfl) ?_
        obtain ⟨hb1, hb2, hf⟩ := hf
        refine q_backI0 X hH (q_runV [.int l1, .int l4] [] X hH hl (c_X6_tie l D cy G X.2.2.2.1 S l0 l1 l4 _ _ hf) mf_X6_tie mv_X6_tie tw_378 ⟨Nat.le_of_ble_eq_true rfl, Nat.le_of_ble_eq_true rfl⟩ hb1 hb2 (T := TX6) (N := 6) rfl rfl (Nat.le_of_ble_eq_true rfl) dX6_closestTo_20 ⟨Nat.le_of_ble_eq_true rfl, Nat.le_of_ble_eq_true rfl⟩) (fun v4 S3 hf H locs hH => ?_)
        refine lv_iload_n hx hb dX6_closestTo_23 rfl (lv_at hl 3 rfl) ?_
        refine lv_icmp_le (tgt := 38) hx hb dX6_closestTo_24 (by decide) (fun c5 => ?_) (fun c5 => ?_)
        · have hf := (if_pos c5).mp hf
          exact hJ38 S3 l0 l1 l2 l3 l4 hf H locs ls hH hl
        · have hf := (if_neg c5).mp hf
          refine lv_aload_n hx hb dX6_closestTo_27 rfl (lv_at hl 0 rfl) ?_
          refine lv_iload_n hx hb dX6_closestTo_28 rfl (lv_at hl 1 rfl) ?_
          refine lv_iload hx hb dX6_closestTo_29 (lv_at hl 4 rfl) ?_
          obtain ⟨hb1, hb2, hf⟩ := hf
          refine q_backI0 X hH (q_runV [.int l1, .int l4] [] X hH hl (c_X6_tie l D cy G X.2.2.2.1 S3 l0 l1 l4 _ _ hf) mf_X6_tie mv_X6_tie tw_378 ⟨Nat.le_of_ble_eq_true rfl, Nat.le_of_ble_eq_true rfl⟩ hb1 hb2 (T := TX6) (N := 6) rfl rfl (Nat.le_of_ble_eq_true rfl) dX6_closestTo_31 ⟨Nat.le_of_ble_eq_true rfl, Nat.le_of_ble_eq_true rfl⟩) (fun v7 S6 hf H locs hH => ?_)
          refine lv_istore_n (lv' := [(3, .int v7), (0, .ref l0), (1, .int l1), (2, .int l2), (4, .int l4)]) hx hb dX6_closestTo_34 rfl hl (by decide) rfl (fun ls hl => ?_)
          refine lv_iload hx hb dX6_closestTo_35 (lv_at hl 4 rfl) ?_
          refine lv_istore_n (lv' := [(2, .int l4), (3, .int v7), (0, .ref l0), (1, .int l1), (4, .int l4)]) hx hb dX6_closestTo_37 rfl hl (by decide) rfl (fun ls hl => ?_)
          exact hJ38 S6 l0 l1 l4 v7 l4 hf H locs ls hH (lv_sub hl [2, 3, 0, 1, 4] rfl)
  refine lv_iconst (v := (-1)) hx hb dX6_closestTo_0 (by decide) ?_
  refine lv_istore_n (lv' := [(2, .int ((-1))), (0, .ref a0), (1, .int a1)]) hx hb dX6_closestTo_1 rfl hl (by decide) rfl (fun ls hl => ?_)
  refine lv_iconst (v := 0) hx hb dX6_closestTo_2 (by decide) ?_
  refine lv_istore_n (lv' := [(3, .int 0), (2, .int ((-1))), (0, .ref a0), (1, .int a1)]) hx hb dX6_closestTo_3 rfl hl (by decide) rfl (fun ls hl => ?_)
  refine lv_iconst (v := 0) hx hb dX6_closestTo_4 (by decide) ?_
  refine lv_istore (lv' := [(4, .int 0), (3, .int 0), (2, .int ((-1))), (0, .ref a0), (1, .int a1)]) hx hb dX6_closestTo_5 hl (by decide) rfl (fun ls hl => ?_)
  exact hL7 4096 S a0 a1 (-1) 0 0 hf H locs ls hH (lv_sub hl [3, 4, 2, 1, 0] rfl)
