-- X1_mostFlow
def f_X1_mostFlow_L59 (post : Int32 → PS → Prop) : Nat → PS → Nat → Int32 → Int32 → Int32 → Int32 → Prop
  | 0, _, _, _, _, _, _ => False
  | n + 1, S, l0, l2, l3, l4, l5 =>
  if 1000 ≤ l5 then
    post l4 S
  else
    isO S l0 5 (
    f_X1_findsPath S l0 l2 l3 fun v3 S2 => (
    if v3 = 0 then
      post l4 S2
    else
      isO S2 l0 5 (
      f_X1_narrowest S2 l0 l2 l3 fun v6 S5 => (
      isO S5 l0 5 (
      f_X1_push S5 l0 l2 l3 v6 fun S7 => (
      (f_X1_mostFlow_L59 post n) S7 l0 l2 l3 (l4 + v6) (l5 + 1)))))))
def f_X1_mostFlow_J53 (post : Int32 → PS → Prop) (S : PS) (l0 : Nat) (l2 : Int32) (l3 : Int32) : Prop :=
  f_X1_mostFlow_L59 post 4096 S l0 l2 l3 0 0
def f_X1_mostFlow_J47 (post : Int32 → PS → Prop) (g3 : PS → Nat → Nat → Int32 → Int32 → Int32 → Prop) (S : PS) (l0 : Nat) (l1 : Nat) (l2 : Int32) (l3 : Int32) (l4 : Int32) : Prop :=
  g3 S l0 l1 l2 l3 (l4 + 1)
def f_X1_mostFlow_L13 (post : Int32 → PS → Prop) (g3 : PS → Nat → Nat → Int32 → Int32 → Int32 → Prop) : Nat → PS → Nat → Nat → Int32 → Int32 → Int32 → Int32 → Prop
  | 0, _, _, _, _, _, _, _ => False
  | n + 1, S, l0, l1, l2, l3, l4, l5 =>
  if 9 ≤ l5 then
    f_X1_mostFlow_J47 post g3 S l0 l1 l2 l3 l4
  else
    gR S l0 5 0 fun v2 => (
    isO S l1 10 (
    f_X6_tie S l1 l4 l5 fun v4 S3 => (
    sI S3 v2 0 ((l4 * 9) + l5) v4 fun S5 => (
    (f_X1_mostFlow_L13 post g3 n) S5 l0 l1 l2 l3 l4 (l5 + 1)))))
def f_X1_mostFlow_L3 (post : Int32 → PS → Prop) : Nat → PS → Nat → Nat → Int32 → Int32 → Int32 → Prop
  | 0, _, _, _, _, _, _ => False
  | n + 1, S, l0, l1, l2, l3, l4 =>
  if 9 ≤ l4 then
    f_X1_mostFlow_J53 post S l0 l2 l3
  else
    f_X1_mostFlow_L13 post (f_X1_mostFlow_L3 post n) 4096 S l0 l1 l2 l3 l4 0
def f_X1_mostFlow (S : PS) (a0 : Nat) (a1 : Nat) (a2 : Int32) (a3 : Int32) (post : Int32 → PS → Prop) : Prop :=
  f_X1_mostFlow_L3 post 4096 S a0 a1 a2 a3 0
abbrev rm_X1_mostFlow : Room := { frames := 3, cells := 0, slots := 0, locals := 70 }
set_option maxHeartbeats 4000000 in
set_option maxRecDepth 100000 in
theorem c_X1_mostFlow (l : Launch) (D : va_G) (cy : Nat → ClassId) (G : p_GT) (hG : p_ok G) (S : PS) (a0 : Nat) (a1 : Nat) (a2 : Int32) (a3 : Int32) (post : Int32 → PS → Prop) (sz : Nat) (hf : f_X1_mostFlow S a0 a1 a2 a3 post) : p_Mi l D cy G S sz yX1_mostFlow (Cond.code yX1_mostFlow cX1_mostFlow 7 (some .int) :: wG) rm_X1_mostFlow [.ref a0, .ref a1, .int a2, .int a3] 0 0 post := by
  refine q_start hG (Qc := fun A => va_Qi post (p_Post D cy A) A) mf_X1_mostFlow (Nat.le_of_ble_eq_true rfl) (own := RX1) rfl ?_
  intro p e s m below meth c A X hr hlk hnm ls hl hH
  have hx := X.1.1
  have hb := X.1.2.1
  replace hl : lv_has ls 7 [(0, .ref a0), (1, .ref a1), (2, .int a2), (3, .int a3)] := hl
  obtain ⟨H, hHe⟩ : ∃ H, H = s.heap := ⟨_, rfl⟩
  obtain ⟨locs, hlo⟩ : ∃ locs : List Loc, locs = [] := ⟨_, rfl⟩
  rw [← hHe, ← hlo] at hH
  show W p l e rm_X1_mostFlow s m [.ref a0, .ref a1, .int a2, .int a3].toArray below meth c s.heap [] 0 0 _ _
  rw [← hHe, ← hlo]
  have hL3 : ∀ (n3 : Nat) (S : PS) (l0 : Nat) (l1 : Nat) (l2 : Int32) (l3 : Int32) (l4 : Int32), f_X1_mostFlow_L3 post n3 S l0 l1 l2 l3 l4 → ∀ (H : Heap) (locs : List Loc) (ls : Array Slot), p_H D cy S A s H locs → lv_has ls 7 [(0, .ref l0), (1, .ref l1), (2, .int l2), (3, .int l3), (4, .int l4)] → W p l e rm_X1_mostFlow s m [.ref a0, .ref a1, .int a2, .int a3].toArray below meth c H locs 0 0 (MQ below (va_Qi post (p_Post D cy A) A) [.ref a0, .ref a1, .int a2, .int a3].toArray s 0 0 A) (F0 m 3 ls []) := by
    intro n3
    induction n3 with
    | zero => intro S l0 l1 l2 l3 l4 hf; exact hf.elim
    | succ n3 ih3 =>
      intro S l0 l1 l2 l3 l4 hf H locs ls hH hl
      have hJ53 : ∀ (S : PS) (l0 : Nat) (l2 : Int32) (l3 : Int32), f_X1_mostFlow_J53 post S l0 l2 l3 → ∀ (H : Heap) (locs : List Loc) (ls : Array Slot), p_H D cy S A s H locs → lv_has ls 7 [(0, .ref l0), (2, .int l2), (3, .int l3)] → W p l e rm_X1_mostFlow s m [.ref a0, .ref a1, .int a2, .int a3].toArray below meth c H locs 0 0 (MQ below (va_Qi post (p_Post D cy A) A) [.ref a0, .ref a1, .int a2, .int a3].toArray s 0 0 A) (F0 m 53 ls []) := by
        intro S l0 l2 l3 hf H locs ls hH hl
        have hL59 : ∀ (n59 : Nat) (S : PS) (l0 : Nat) (l2 : Int32) (l3 : Int32) (l4 : Int32) (l5 : Int32), f_X1_mostFlow_L59 post n59 S l0 l2 l3 l4 l5 → ∀ (H : Heap) (locs : List Loc) (ls : Array Slot), p_H D cy S A s H locs → lv_has ls 7 [(0, .ref l0), (2, .int l2), (3, .int l3), (4, .int l4), (5, .int l5)] → W p l e rm_X1_mostFlow s m [.ref a0, .ref a1, .int a2, .int a3].toArray below meth c H locs 0 0 (MQ below (va_Qi post (p_Post D cy A) A) [.ref a0, .ref a1, .int a2, .int a3].toArray s 0 0 A) (F0 m 59 ls []) := by
          intro n59
          induction n59 with
          | zero => intro S l0 l2 l3 l4 l5 hf; exact hf.elim
          | succ n59 ih59 =>
            intro S l0 l2 l3 l4 l5 hf H locs ls hH hl
            refine lv_iload hx hb dX1_mostFlow_59 (lv_at hl 4 rfl) ?_
            refine lv_sipush (v := 1000) hx hb dX1_mostFlow_61 (by decide) ?_
            refine lv_icmp_ge (tgt := 105) hx hb dX1_mostFlow_64 (by decide) (fun c1 => ?_) (fun c1 => ?_)
            · have hf := (if_pos c1).mp hf
              refine lv_iload hx hb dX1_mostFlow_105 (lv_at hl 3 rfl) ?_
              exact q_retI X hH hr hlk hf (Nat.zero_le _) (Nat.zero_le _) dX1_mostFlow_107
            · have hf := (if_neg c1).mp hf
              refine lv_aload_n hx hb dX1_mostFlow_67 rfl (lv_at hl 0 rfl) ?_
              refine lv_iload_n hx hb dX1_mostFlow_68 rfl (lv_at hl 1 rfl) ?_
              refine lv_iload_n hx hb dX1_mostFlow_69 rfl (lv_at hl 2 rfl) ?_
              obtain ⟨hb1, hb2, hf⟩ := hf
              refine q_backI0 X hH (q_runV [.int l2, .int l3] [] X hH hl (c_X1_findsPath l D cy G X.2.2.2.1 S l0 l2 l3 _ _ hf) mf_X1_findsPath mv_X1_findsPath tw_563 ⟨Nat.le_of_ble_eq_true rfl, Nat.le_of_ble_eq_true rfl⟩ hb1 hb2 (T := TX1) (N := 3) rfl rfl (Nat.le_of_ble_eq_true rfl) dX1_mostFlow_70 ⟨Nat.le_of_ble_eq_true rfl, Nat.le_of_ble_eq_true rfl⟩) (fun v3 S2 hf H locs hH => ?_)
              refine lv_if_eq (tgt := 105) hx hb dX1_mostFlow_73 (by decide) (fun c4 => ?_) (fun c4 => ?_)
              · have hf := (if_pos c4).mp hf
                refine lv_iload hx hb dX1_mostFlow_105 (lv_at hl 3 rfl) ?_
                exact q_retI X hH hr hlk hf (Nat.zero_le _) (Nat.zero_le _) dX1_mostFlow_107
              · have hf := (if_neg c4).mp hf
                refine lv_aload_n hx hb dX1_mostFlow_76 rfl (lv_at hl 0 rfl) ?_
                refine lv_iload_n hx hb dX1_mostFlow_77 rfl (lv_at hl 1 rfl) ?_
                refine lv_iload_n hx hb dX1_mostFlow_78 rfl (lv_at hl 2 rfl) ?_
                obtain ⟨hb1, hb2, hf⟩ := hf
                refine q_backI0 X hH (q_runV [.int l2, .int l3] [] X hH hl (c_X1_narrowest l D cy G X.2.2.2.1 S2 l0 l2 l3 _ _ hf) mf_X1_narrowest mv_X1_narrowest tw_576 ⟨Nat.le_of_ble_eq_true rfl, Nat.le_of_ble_eq_true rfl⟩ hb1 hb2 (T := TX1) (N := 3) rfl rfl (Nat.le_of_ble_eq_true rfl) dX1_mostFlow_79 ⟨Nat.le_of_ble_eq_true rfl, Nat.le_of_ble_eq_true rfl⟩) (fun v6 S5 hf H locs hH => ?_)
                refine lv_istore (lv' := [(6, .int v6), (0, .ref l0), (2, .int l2), (3, .int l3), (4, .int l4), (5, .int l5)]) hx hb dX1_mostFlow_82 hl (by decide) rfl (fun ls hl => ?_)
                refine lv_aload_n hx hb dX1_mostFlow_84 rfl (lv_at hl 1 rfl) ?_
                refine lv_iload_n hx hb dX1_mostFlow_85 rfl (lv_at hl 2 rfl) ?_
                refine lv_iload_n hx hb dX1_mostFlow_86 rfl (lv_at hl 3 rfl) ?_
                refine lv_iload hx hb dX1_mostFlow_87 (lv_at hl 0 rfl) ?_
                obtain ⟨hb1, hb2, hf⟩ := hf
                refine q_backV0 X hH (q_runV [.int l2, .int l3, .int v6] [] X hH hl (c_X1_push l D cy G X.2.2.2.1 S5 l0 l2 l3 v6 _ _ hf) mf_X1_push mv_X1_push tw_586 ⟨Nat.le_of_ble_eq_true rfl, Nat.le_of_ble_eq_true rfl⟩ hb1 hb2 (T := TX1) (N := 3) rfl rfl (Nat.le_of_ble_eq_true rfl) dX1_mostFlow_89 ⟨Nat.le_of_ble_eq_true rfl, Nat.le_of_ble_eq_true rfl⟩) (fun S7 hf H locs hH => ?_)
                refine lv_iload hx hb dX1_mostFlow_92 (lv_at hl 4 rfl) ?_
                refine lv_iload hx hb dX1_mostFlow_94 (lv_at hl 0 rfl) ?_
                refine lv_iadd hx hb dX1_mostFlow_96 ?_
                refine lv_istore (lv' := [(4, .int (l4 + v6)), (6, .int v6), (0, .ref l0), (2, .int l2), (3, .int l3), (5, .int l5)]) hx hb dX1_mostFlow_97 hl (by decide) rfl (fun ls hl => ?_)
                refine lv_iinc (v := l5 + 1) (lv' := [(5, .int (l5 + 1)), (4, .int (l4 + v6)), (6, .int v6), (0, .ref l0), (2, .int l2), (3, .int l3)]) hx hb dX1_mostFlow_99 hl (k := 5) rfl rfl (by decide) rfl (fun ls hl => ?_)
                refine lv_goto (tgt := 59) hx hb dX1_mostFlow_102 (by decide) ?_
                exact ih59 S7 l0 l2 l3 (l4 + v6) (l5 + 1) hf H locs ls hH (lv_sub hl [3, 4, 5, 1, 0] rfl)
        refine lv_iconst (v := 0) hx hb dX1_mostFlow_53 (by decide) ?_
        refine lv_istore (lv' := [(4, .int 0), (0, .ref l0), (2, .int l2), (3, .int l3)]) hx hb dX1_mostFlow_54 hl (by decide) rfl (fun ls hl => ?_)
        refine lv_iconst (v := 0) hx hb dX1_mostFlow_56 (by decide) ?_
        refine lv_istore (lv' := [(5, .int 0), (4, .int 0), (0, .ref l0), (2, .int l2), (3, .int l3)]) hx hb dX1_mostFlow_57 hl (by decide) rfl (fun ls hl => ?_)
        exact hL59 4096 S l0 l2 l3 0 0 hf H locs ls hH (lv_sub hl [2, 3, 4, 1, 0] rfl)
      have hL13 : ∀ (n13 : Nat) (S : PS) (l0 : Nat) (l1 : Nat) (l2 : Int32) (l3 : Int32) (l4 : Int32) (l5 : Int32), f_X1_mostFlow_L13 post (f_X1_mostFlow_L3 post n3) n13 S l0 l1 l2 l3 l4 l5 → ∀ (H : Heap) (locs : List Loc) (ls : Array Slot), p_H D cy S A s H locs → lv_has ls 7 [(0, .ref l0), (1, .ref l1), (2, .int l2), (3, .int l3), (4, .int l4), (5, .int l5)] → W p l e rm_X1_mostFlow s m [.ref a0, .ref a1, .int a2, .int a3].toArray below meth c H locs 0 0 (MQ below (va_Qi post (p_Post D cy A) A) [.ref a0, .ref a1, .int a2, .int a3].toArray s 0 0 A) (F0 m 13 ls []) := by
        intro n13
        induction n13 with
        | zero => intro S l0 l1 l2 l3 l4 l5 hf; exact hf.elim
        | succ n13 ih13 =>
          intro S l0 l1 l2 l3 l4 l5 hf H locs ls hH hl
          have hJ47 : ∀ (S : PS) (l0 : Nat) (l1 : Nat) (l2 : Int32) (l3 : Int32) (l4 : Int32), f_X1_mostFlow_J47 post (f_X1_mostFlow_L3 post n3) S l0 l1 l2 l3 l4 → ∀ (H : Heap) (locs : List Loc) (ls : Array Slot), p_H D cy S A s H locs → lv_has ls 7 [(0, .ref l0), (1, .ref l1), (2, .int l2), (3, .int l3), (4, .int l4)] → W p l e rm_X1_mostFlow s m [.ref a0, .ref a1, .int a2, .int a3].toArray below meth c H locs 0 0 (MQ below (va_Qi post (p_Post D cy A) A) [.ref a0, .ref a1, .int a2, .int a3].toArray s 0 0 A) (F0 m 47 ls []) := by
            intro S l0 l1 l2 l3 l4 hf H locs ls hH hl
            refine lv_iinc (v := l4 + 1) (lv' := [(4, .int (l4 + 1)), (0, .ref l0), (1, .ref l1), (2, .int l2), (3, .int l3)]) hx hb dX1_mostFlow_47 hl (k := 4) rfl rfl (by decide) rfl (fun ls hl => ?_)
            refine lv_goto (tgt := 3) hx hb dX1_mostFlow_50 (by decide) ?_
            exact ih3 S l0 l1 l2 l3 (l4 + 1) hf H locs ls hH (lv_sub hl [1, 2, 3, 4, 0] rfl)
          refine lv_iload hx hb dX1_mostFlow_13 (lv_at hl 5 rfl) ?_
          refine lv_bipush (v := 9) hx hb dX1_mostFlow_15 (by decide) ?_
          refine lv_icmp_ge (tgt := 47) hx hb dX1_mostFlow_17 (by decide) (fun c1 => ?_) (fun c1 => ?_)
          · have hf := (if_pos c1).mp hf
            exact hJ47 S l0 l1 l2 l3 l4 hf H locs ls hH (lv_sub hl [0, 1, 2, 3, 4] rfl)
          · have hf := (if_neg c1).mp hf
            refine lv_aload_n hx hb dX1_mostFlow_20 rfl (lv_at hl 0 rfl) ?_
            refine q_getR (T := TX1) (N := 3) X hH hf iw_X1 rfl (by decide) tw_161 (fun _ h => h) dX1_mostFlow_21 (fun v2 hf => ?_)
            refine lv_iload hx hb dX1_mostFlow_24 (lv_at hl 4 rfl) ?_
            refine lv_bipush (v := 9) hx hb dX1_mostFlow_26 (by decide) ?_
            refine lv_imul hx hb dX1_mostFlow_28 ?_
            refine lv_iload hx hb dX1_mostFlow_29 (lv_at hl 5 rfl) ?_
            refine lv_iadd hx hb dX1_mostFlow_31 ?_
            refine lv_aload_n hx hb dX1_mostFlow_32 rfl (lv_at hl 1 rfl) ?_
            refine lv_iload hx hb dX1_mostFlow_33 (lv_at hl 4 rfl) ?_
            refine lv_iload hx hb dX1_mostFlow_35 (lv_at hl 5 rfl) ?_
            obtain ⟨hb1, hb2, hf⟩ := hf
            refine q_backI0 X hH (q_runV [.int l4, .int l5] [.int ((l4 * 9) + l5), .ref v2] X hH hl (c_X6_tie l D cy G X.2.2.2.1 S l1 l4 l5 _ _ hf) mf_X6_tie mv_X6_tie tw_562 ⟨Nat.le_of_ble_eq_true rfl, Nat.le_of_ble_eq_true rfl⟩ hb1 hb2 (T := TX6) (N := 6) rfl rfl (Nat.le_of_ble_eq_true rfl) dX1_mostFlow_37 ⟨Nat.le_of_ble_eq_true rfl, Nat.le_of_ble_eq_true rfl⟩) (fun v4 S3 hf H locs hH => ?_)
            refine q_iast X hH hf dX1_mostFlow_40 (fun S5 hf H locs hH => ?_)
            refine lv_iinc (v := l5 + 1) (lv' := [(5, .int (l5 + 1)), (0, .ref l0), (1, .ref l1), (2, .int l2), (3, .int l3), (4, .int l4)]) hx hb dX1_mostFlow_41 hl (k := 5) rfl rfl (by decide) rfl (fun ls hl => ?_)
            refine lv_goto (tgt := 13) hx hb dX1_mostFlow_44 (by decide) ?_
            exact ih13 S5 l0 l1 l2 l3 l4 (l5 + 1) hf H locs ls hH (lv_sub hl [1, 2, 3, 4, 5, 0] rfl)
      refine lv_iload hx hb dX1_mostFlow_3 (lv_at hl 4 rfl) ?_
      refine lv_bipush (v := 9) hx hb dX1_mostFlow_5 (by decide) ?_
      refine lv_icmp_ge (tgt := 53) hx hb dX1_mostFlow_7 (by decide) (fun c1 => ?_) (fun c1 => ?_)
      · have hf := (if_pos c1).mp hf
        exact hJ53 S l0 l2 l3 hf H locs ls hH (lv_sub hl [0, 2, 3] rfl)
      · have hf := (if_neg c1).mp hf
        refine lv_iconst (v := 0) hx hb dX1_mostFlow_10 (by decide) ?_
        refine lv_istore (lv' := [(5, .int 0), (0, .ref l0), (1, .ref l1), (2, .int l2), (3, .int l3), (4, .int l4)]) hx hb dX1_mostFlow_11 hl (by decide) rfl (fun ls hl => ?_)
        exact hL13 4096 S l0 l1 l2 l3 l4 0 hf H locs ls hH (lv_sub hl [1, 2, 3, 4, 5, 0] rfl)
  refine lv_iconst (v := 0) hx hb dX1_mostFlow_0 (by decide) ?_
  refine lv_istore (lv' := [(4, .int 0), (0, .ref a0), (1, .ref a1), (2, .int a2), (3, .int a3)]) hx hb dX1_mostFlow_1 hl (by decide) rfl (fun ls hl => ?_)
  exact hL3 4096 S a0 a1 a2 a3 0 hf H locs ls hH (lv_sub hl [1, 2, 3, 4, 0] rfl)
-- X3_measure
def f_X3_measure_L76 (post : PS → Prop) : Nat → PS → Nat → Int32 → Prop
  | 0, _, _, _ => False
  | n + 1, S, l0, l2 =>
  gI S l0 7 5 fun v1 => (
  if (v1 - 1) ≤ l2 then
    post S
  else
    isO S l0 7 (
    f_X3_joinAll S l0 l2 fun S3 => (
    isO S3 l0 7 (
    f_X3_mergeLast S3 l0 l2 fun S5 => (
    (f_X3_measure_L76 post n) S5 l0 (l2 + 1))))))
def f_X3_measure_J74 (post : PS → Prop) (S : PS) (l0 : Nat) : Prop :=
  f_X3_measure_L76 post 4096 S l0 0
def f_X3_measure_J68 (post : PS → Prop) (g10 : PS → Nat → Nat → Int32 → Prop) (S : PS) (l0 : Nat) (l1 : Nat) (l2 : Int32) : Prop :=
  g10 S l0 l1 (l2 + 1)
def f_X3_measure_L39 (post : PS → Prop) (g10 : PS → Nat → Nat → Int32 → Prop) : Nat → PS → Nat → Nat → Int32 → Int32 → Prop
  | 0, _, _, _, _, _ => False
  | n + 1, S, l0, l1, l2, l3 =>
  if 9 ≤ l3 then
    f_X3_measure_J68 post g10 S l0 l1 l2
  else
    gR S l0 7 2 fun v2 => (
    isO S l1 10 (
    f_X6_tie S l1 l2 l3 fun v4 S3 => (
    sI S3 v2 0 ((l2 * 9) + l3) v4 fun S5 => (
    (f_X3_measure_L39 post g10 n) S5 l0 l1 l2 (l3 + 1)))))
def f_X3_measure_J36 (post : PS → Prop) (g10 : PS → Nat → Nat → Int32 → Prop) (S : PS) (l0 : Nat) (l1 : Nat) (l2 : Int32) (t0 : Int32) (t1 : Int32) (t2 : Nat) : Prop :=
  sI S t2 0 t1 t0 fun S1 => (
  f_X3_measure_L39 post g10 4096 S1 l0 l1 l2 0)
def f_X3_measure_L10 (post : PS → Prop) : Nat → PS → Nat → Nat → Int32 → Prop
  | 0, _, _, _, _ => False
  | n + 1, S, l0, l1, l2 =>
  if 9 ≤ l2 then
    f_X3_measure_J74 post S l0
  else
    gR S l0 7 3 fun v2 => (
    gI S l0 7 5 fun v3 => (
    if v3 ≤ l2 then
      f_X3_measure_J36 post (f_X3_measure_L10 post n) S l0 l1 l2 0 l2 v2
    else
      f_X3_measure_J36 post (f_X3_measure_L10 post n) S l0 l1 l2 ((1 : Int32) <<< (l2 &&& 31)) l2 v2))
def f_X3_measure (S : PS) (a0 : Nat) (a1 : Nat) (post : PS → Prop) : Prop :=
  gI S a1 10 1 fun v1 => (
  pV S a0 7 5 (.int v1) fun S2 => (
  f_X3_measure_L10 post 4096 S2 a0 a1 0))
abbrev rm_X3_measure : Room := { frames := 3, cells := 0, slots := 0, locals := 71 }
set_option maxHeartbeats 4000000 in
set_option maxRecDepth 100000 in
theorem c_X3_measure (l : Launch) (D : va_G) (cy : Nat → ClassId) (G : p_GT) (hG : p_ok G) (S : PS) (a0 : Nat) (a1 : Nat) (post : PS → Prop) (sz : Nat) (hf : f_X3_measure S a0 a1 post) : p_Mv l D cy G S sz yX3_measure (Cond.code yX3_measure cX3_measure 4 none :: wG) rm_X3_measure [.ref a0, .ref a1] 0 0 post := by
  refine q_start hG (Qc := fun A => va_Qv post (p_Post D cy A) A) mf_X3_measure (Nat.le_of_ble_eq_true rfl) (own := RX3) rfl ?_
  intro p e s m below meth c A X hr hlk hnm ls hl hH
  have hx := X.1.1
  have hb := X.1.2.1
  replace hl : lv_has ls 4 [(0, .ref a0), (1, .ref a1)] := hl
  obtain ⟨H, hHe⟩ : ∃ H, H = s.heap := ⟨_, rfl⟩
  obtain ⟨locs, hlo⟩ : ∃ locs : List Loc, locs = [] := ⟨_, rfl⟩
  rw [← hHe, ← hlo] at hH
  show W p l e rm_X3_measure s m [.ref a0, .ref a1].toArray below meth c s.heap [] 0 0 _ _
  rw [← hHe, ← hlo]
  have hL10 : ∀ (n10 : Nat) (S : PS) (l0 : Nat) (l1 : Nat) (l2 : Int32), f_X3_measure_L10 post n10 S l0 l1 l2 → ∀ (H : Heap) (locs : List Loc) (ls : Array Slot), p_H D cy S A s H locs → lv_has ls 4 [(0, .ref l0), (1, .ref l1), (2, .int l2)] → W p l e rm_X3_measure s m [.ref a0, .ref a1].toArray below meth c H locs 0 0 (MQ below (va_Qv post (p_Post D cy A) A) [.ref a0, .ref a1].toArray s 0 0 A) (F0 m 10 ls []) := by
    intro n10
    induction n10 with
    | zero => intro S l0 l1 l2 hf; exact hf.elim
    | succ n10 ih10 =>
      intro S l0 l1 l2 hf H locs ls hH hl
      have hJ74 : ∀ (S : PS) (l0 : Nat), f_X3_measure_J74 post S l0 → ∀ (H : Heap) (locs : List Loc) (ls : Array Slot), p_H D cy S A s H locs → lv_has ls 4 [(0, .ref l0)] → W p l e rm_X3_measure s m [.ref a0, .ref a1].toArray below meth c H locs 0 0 (MQ below (va_Qv post (p_Post D cy A) A) [.ref a0, .ref a1].toArray s 0 0 A) (F0 m 74 ls []) := by
        intro S l0 hf H locs ls hH hl
        have hL76 : ∀ (n76 : Nat) (S : PS) (l0 : Nat) (l2 : Int32), f_X3_measure_L76 post n76 S l0 l2 → ∀ (H : Heap) (locs : List Loc) (ls : Array Slot), p_H D cy S A s H locs → lv_has ls 4 [(0, .ref l0), (2, .int l2)] → W p l e rm_X3_measure s m [.ref a0, .ref a1].toArray below meth c H locs 0 0 (MQ below (va_Qv post (p_Post D cy A) A) [.ref a0, .ref a1].toArray s 0 0 A) (F0 m 76 ls []) := by
          intro n76
          induction n76 with
          | zero => intro S l0 l2 hf; exact hf.elim
          | succ n76 ih76 =>
            intro S l0 l2 hf H locs ls hH hl
            refine lv_iload_n hx hb dX3_measure_76 rfl (lv_at hl 1 rfl) ?_
            refine lv_aload_n hx hb dX3_measure_77 rfl (lv_at hl 0 rfl) ?_
            refine q_getI (T := TX3) (N := 6) X hH hf iw_X3 rfl (by decide) tw_128 (fun _ h => h) dX3_measure_78 (fun v1 hf => ?_)
            refine lv_iconst (v := 1) hx hb dX3_measure_81 (by decide) ?_
            refine lv_isub hx hb dX3_measure_82 ?_
            refine lv_icmp_ge (tgt := 102) hx hb dX3_measure_83 (by decide) (fun c2 => ?_) (fun c2 => ?_)
            · have hf := (if_pos c2).mp hf
              exact q_retV X hH hr hlk hf (Nat.zero_le _) (Nat.zero_le _) dX3_measure_102
            · have hf := (if_neg c2).mp hf
              refine lv_aload_n hx hb dX3_measure_86 rfl (lv_at hl 0 rfl) ?_
              refine lv_iload_n hx hb dX3_measure_87 rfl (lv_at hl 1 rfl) ?_
              obtain ⟨hb1, hb2, hf⟩ := hf
              refine q_backV0 X hH (q_runV [.int l2] [] X hH hl (c_X3_joinAll l D cy G X.2.2.2.1 S l0 l2 _ _ hf) mf_X3_joinAll mv_X3_joinAll tw_462 ⟨Nat.le_of_ble_eq_true rfl, Nat.le_of_ble_eq_true rfl⟩ hb1 hb2 (T := TX3) (N := 6) rfl rfl (Nat.le_of_ble_eq_true rfl) dX3_measure_88 ⟨Nat.le_of_ble_eq_true rfl, Nat.le_of_ble_eq_true rfl⟩) (fun S3 hf H locs hH => ?_)
              refine lv_aload_n hx hb dX3_measure_91 rfl (lv_at hl 0 rfl) ?_
              refine lv_iload_n hx hb dX3_measure_92 rfl (lv_at hl 1 rfl) ?_
              obtain ⟨hb1, hb2, hf⟩ := hf
              refine q_backV0 X hH (q_runV [.int l2] [] X hH hl (c_X3_mergeLast l D cy G X.2.2.2.1 S3 l0 l2 _ _ hf) mf_X3_mergeLast mv_X3_mergeLast tw_483 ⟨Nat.le_of_ble_eq_true rfl, Nat.le_of_ble_eq_true rfl⟩ hb1 hb2 (T := TX3) (N := 6) rfl rfl (Nat.le_of_ble_eq_true rfl) dX3_measure_93 ⟨Nat.le_of_ble_eq_true rfl, Nat.le_of_ble_eq_true rfl⟩) (fun S5 hf H locs hH => ?_)
              refine lv_iinc (v := l2 + 1) (lv' := [(2, .int (l2 + 1)), (0, .ref l0)]) hx hb dX3_measure_96 hl (k := 1) rfl rfl (by decide) rfl (fun ls hl => ?_)
              refine lv_goto (tgt := 76) hx hb dX3_measure_99 (by decide) ?_
              exact ih76 S5 l0 (l2 + 1) hf H locs ls hH (lv_sub hl [1, 0] rfl)
        refine lv_iconst (v := 0) hx hb dX3_measure_74 (by decide) ?_
        refine lv_istore_n (lv' := [(2, .int 0), (0, .ref l0)]) hx hb dX3_measure_75 rfl hl (by decide) rfl (fun ls hl => ?_)
        exact hL76 4096 S l0 0 hf H locs ls hH (lv_sub hl [1, 0] rfl)
      have hJ36 : ∀ (S : PS) (l0 : Nat) (l1 : Nat) (l2 : Int32) (t0 : Int32) (t1 : Int32) (t2 : Nat), f_X3_measure_J36 post (f_X3_measure_L10 post n10) S l0 l1 l2 t0 t1 t2 → ∀ (H : Heap) (locs : List Loc) (ls : Array Slot), p_H D cy S A s H locs → lv_has ls 4 [(0, .ref l0), (1, .ref l1), (2, .int l2)] → W p l e rm_X3_measure s m [.ref a0, .ref a1].toArray below meth c H locs 0 0 (MQ below (va_Qv post (p_Post D cy A) A) [.ref a0, .ref a1].toArray s 0 0 A) (F0 m 36 ls [.int t0, .int t1, .ref t2]) := by
        intro S l0 l1 l2 t0 t1 t2 hf H locs ls hH hl
        have hL39 : ∀ (n39 : Nat) (S : PS) (l0 : Nat) (l1 : Nat) (l2 : Int32) (l3 : Int32), f_X3_measure_L39 post (f_X3_measure_L10 post n10) n39 S l0 l1 l2 l3 → ∀ (H : Heap) (locs : List Loc) (ls : Array Slot), p_H D cy S A s H locs → lv_has ls 4 [(0, .ref l0), (1, .ref l1), (2, .int l2), (3, .int l3)] → W p l e rm_X3_measure s m [.ref a0, .ref a1].toArray below meth c H locs 0 0 (MQ below (va_Qv post (p_Post D cy A) A) [.ref a0, .ref a1].toArray s 0 0 A) (F0 m 39 ls []) := by
          intro n39
          induction n39 with
          | zero => intro S l0 l1 l2 l3 hf; exact hf.elim
          | succ n39 ih39 =>
            intro S l0 l1 l2 l3 hf H locs ls hH hl
            have hJ68 : ∀ (S : PS) (l0 : Nat) (l1 : Nat) (l2 : Int32), f_X3_measure_J68 post (f_X3_measure_L10 post n10) S l0 l1 l2 → ∀ (H : Heap) (locs : List Loc) (ls : Array Slot), p_H D cy S A s H locs → lv_has ls 4 [(0, .ref l0), (1, .ref l1), (2, .int l2)] → W p l e rm_X3_measure s m [.ref a0, .ref a1].toArray below meth c H locs 0 0 (MQ below (va_Qv post (p_Post D cy A) A) [.ref a0, .ref a1].toArray s 0 0 A) (F0 m 68 ls []) := by
              intro S l0 l1 l2 hf H locs ls hH hl
              refine lv_iinc (v := l2 + 1) (lv' := [(2, .int (l2 + 1)), (0, .ref l0), (1, .ref l1)]) hx hb dX3_measure_68 hl (k := 2) rfl rfl (by decide) rfl (fun ls hl => ?_)
              refine lv_goto (tgt := 10) hx hb dX3_measure_71 (by decide) ?_
              exact ih10 S l0 l1 (l2 + 1) hf H locs ls hH (lv_sub hl [1, 2, 0] rfl)
            refine lv_iload_n hx hb dX3_measure_39 rfl (lv_at hl 3 rfl) ?_
            refine lv_bipush (v := 9) hx hb dX3_measure_40 (by decide) ?_
            refine lv_icmp_ge (tgt := 68) hx hb dX3_measure_42 (by decide) (fun c1 => ?_) (fun c1 => ?_)
            · have hf := (if_pos c1).mp hf
              exact hJ68 S l0 l1 l2 hf H locs ls hH (lv_sub hl [0, 1, 2] rfl)
            · have hf := (if_neg c1).mp hf
              refine lv_aload_n hx hb dX3_measure_45 rfl (lv_at hl 0 rfl) ?_
              refine q_getR (T := TX3) (N := 6) X hH hf iw_X3 rfl (by decide) tw_125 (fun _ h => h) dX3_measure_46 (fun v2 hf => ?_)
              refine lv_iload_n hx hb dX3_measure_49 rfl (lv_at hl 2 rfl) ?_
              refine lv_bipush (v := 9) hx hb dX3_measure_50 (by decide) ?_
              refine lv_imul hx hb dX3_measure_52 ?_
              refine lv_iload_n hx hb dX3_measure_53 rfl (lv_at hl 3 rfl) ?_
              refine lv_iadd hx hb dX3_measure_54 ?_
              refine lv_aload_n hx hb dX3_measure_55 rfl (lv_at hl 1 rfl) ?_
              refine lv_iload_n hx hb dX3_measure_56 rfl (lv_at hl 2 rfl) ?_
              refine lv_iload_n hx hb dX3_measure_57 rfl (lv_at hl 3 rfl) ?_
              obtain ⟨hb1, hb2, hf⟩ := hf
              refine q_backI0 X hH (q_runV [.int l2, .int l3] [.int ((l2 * 9) + l3), .ref v2] X hH hl (c_X6_tie l D cy G X.2.2.2.1 S l1 l2 l3 _ _ hf) mf_X6_tie mv_X6_tie tw_461 ⟨Nat.le_of_ble_eq_true rfl, Nat.le_of_ble_eq_true rfl⟩ hb1 hb2 (T := TX6) (N := 6) rfl rfl (Nat.le_of_ble_eq_true rfl) dX3_measure_58 ⟨Nat.le_of_ble_eq_true rfl, Nat.le_of_ble_eq_true rfl⟩) (fun v4 S3 hf H locs hH => ?_)
              refine q_iast X hH hf dX3_measure_61 (fun S5 hf H locs hH => ?_)
              refine lv_iinc (v := l3 + 1) (lv' := [(3, .int (l3 + 1)), (0, .ref l0), (1, .ref l1), (2, .int l2)]) hx hb dX3_measure_62 hl (k := 3) rfl rfl (by decide) rfl (fun ls hl => ?_)
              refine lv_goto (tgt := 39) hx hb dX3_measure_65 (by decide) ?_
              exact ih39 S5 l0 l1 l2 (l3 + 1) hf H locs ls hH (lv_sub hl [1, 2, 3, 0] rfl)
        refine q_iast X hH hf dX3_measure_36 (fun S1 hf H locs hH => ?_)
        refine lv_iconst (v := 0) hx hb dX3_measure_37 (by decide) ?_
        refine lv_istore_n (lv' := [(3, .int 0), (0, .ref l0), (1, .ref l1), (2, .int l2)]) hx hb dX3_measure_38 rfl hl (by decide) rfl (fun ls hl => ?_)
        exact hL39 4096 S1 l0 l1 l2 0 hf H locs ls hH (lv_sub hl [1, 2, 3, 0] rfl)
      refine lv_iload_n hx hb dX3_measure_10 rfl (lv_at hl 2 rfl) ?_
      refine lv_bipush (v := 9) hx hb dX3_measure_11 (by decide) ?_
      refine lv_icmp_ge (tgt := 74) hx hb dX3_measure_13 (by decide) (fun c1 => ?_) (fun c1 => ?_)
      · have hf := (if_pos c1).mp hf
        exact hJ74 S l0 hf H locs ls hH (lv_sub hl [0] rfl)
      · have hf := (if_neg c1).mp hf
        refine lv_aload_n hx hb dX3_measure_16 rfl (lv_at hl 0 rfl) ?_
        refine q_getR (T := TX3) (N := 6) X hH hf iw_X3 rfl (by decide) tw_126 (fun _ h => h) dX3_measure_17 (fun v2 hf => ?_)
        refine lv_iload_n hx hb dX3_measure_20 rfl (lv_at hl 2 rfl) ?_
        refine lv_iload_n hx hb dX3_measure_21 rfl (lv_at hl 2 rfl) ?_
        refine lv_aload_n hx hb dX3_measure_22 rfl (lv_at hl 0 rfl) ?_
        refine q_getI (T := TX3) (N := 6) X hH hf iw_X3 rfl (by decide) tw_128 (fun _ h => h) dX3_measure_23 (fun v3 hf => ?_)
        refine lv_icmp_ge (tgt := 35) hx hb dX3_measure_26 (by decide) (fun c4 => ?_) (fun c4 => ?_)
        · have hf := (if_pos c4).mp hf
          refine lv_iconst (v := 0) hx hb dX3_measure_35 (by decide) ?_
          exact hJ36 S l0 l1 l2 0 l2 v2 hf H locs ls hH hl
        · have hf := (if_neg c4).mp hf
          refine lv_iconst (v := 1) hx hb dX3_measure_29 (by decide) ?_
          refine lv_iload_n hx hb dX3_measure_30 rfl (lv_at hl 2 rfl) ?_
          refine lv_ishl hx hb dX3_measure_31 ?_
          refine lv_goto (tgt := 36) hx hb dX3_measure_32 (by decide) ?_
          exact hJ36 S l0 l1 l2 ((1 : Int32) <<< (l2 &&& 31)) l2 v2 hf H locs ls hH hl
  refine lv_aload_n hx hb dX3_measure_0 rfl (lv_at hl 0 rfl) ?_
  refine lv_aload_n hx hb dX3_measure_1 rfl (lv_at hl 1 rfl) ?_
  refine q_getIN (T := TX6) (N := 6) X hH hf iw_X6 rfl (by decide) (List.mem_of_getElem? (i := 6) rfl) (fun _ h => h) dX3_measure_2 (fun v1 hf => ?_)
  refine q_putV (T := TX3) (N := 6) (ty0 := tyX3) (ty := tyX3 5) X hH hf iw_X3 tyX3_ok nmX3 rfl (by decide) tw_128 (fun _ h => h) rfl (tyX3_ok 5 (by decide)) rfl rfl dX3_measure_5 (fun S2 hf H locs hH => ?_)
  refine lv_iconst (v := 0) hx hb dX3_measure_8 (by decide) ?_
  refine lv_istore_n (lv' := [(2, .int 0), (0, .ref a0), (1, .ref a1)]) hx hb dX3_measure_9 rfl hl (by decide) rfl (fun ls hl => ?_)
  exact hL10 4096 S2 a0 a1 0 hf H locs ls hH (lv_sub hl [1, 2, 0] rfl)
-- X7_phaseOf
def f_X7_phaseOf (S : PS) (a0 : Nat) (a1 : Int32) (a2 : Int32) (bc bs : Nat) (post : Int32 → PS → Prop) (postX : String → PS → Prop) : Prop :=
  isO S a0 11 (
  f_X7_hasPhase S a0 a1 fun v2 S1 => (
  if v2 = 0 then
    tX S1 "java/lang/IndexOutOfBoundsException" bc bs postX
  else
    gR S1 a0 11 4 fun v4 => (
    gR S1 a0 11 0 fun v5 => (
    isO S1 v4 7 (
    f_X3_measure S1 v4 v5 fun S6 => (
    gR S6 a0 11 4 fun v8 => (
    isO S6 v8 7 (
    f_X3_groupsIn S6 v8 a1 fun v10 S9 => (
    if a2 = 0 then
      gR S9 a0 11 4 fun v12 => (
      isO S9 v12 7 (
      f_X3_cutOf S9 v12 a1 fun v14 S13 => (
      post v14 S13)))
    else
    if a2 = 1 then
      post v10 S9
    else
    if a2 = 2 then
      gR S9 a0 11 4 fun v17 => (
      isO S9 v17 7 (
      f_X3_groupAt S9 v17 a1 (v10 - 1) fun v19 S18 => (
      f_X7_lowestOf S18 v19 fun v21 S20 => (
      post v21 S20))))
    else
    if a2 = 3 then
      gR S9 a0 11 4 fun v23 => (
      isO S9 v23 7 (
      f_X3_groupAt S9 v23 a1 (v10 - 2) fun v25 S24 => (
      f_X7_lowestOf S24 v25 fun v27 S26 => (
      post v27 S26))))
    else
    if a2 = 4 then
      gR S9 a0 11 4 fun v29 => (
      isO S9 v29 7 (
      f_X3_groupAt S9 v29 a1 (v10 - 1) fun v31 S30 => (
      post v31 S30)))
    else
      tX S9 "java/lang/IllegalArgumentException" bc bs postX)))))))))
abbrev rm_X7_phaseOf (mc ms : Nat) : Room := { frames := 6, cells := mc, slots := ms, locals := 94 }
set_option maxHeartbeats 4000000 in
set_option maxRecDepth 100000 in
theorem c_X7_phaseOf (l : Launch) (D : va_G) (cy : Nat → ClassId) (G : p_GT) (hG : p_ok G) (hst : l.stackTraces = false) (hGE : ∀ (A : Nat → Prop) (U : State) (H : Heap), G A U H → p_Ex A U H) (S : PS) (a0 : Nat) (a1 : Int32) (a2 : Int32) (mc ms : Nat) (post : Int32 → PS → Prop) (postX : String → PS → Prop) (sz : Nat) (hf : f_X7_phaseOf S a0 a1 a2 mc ms post postX) : p_Xi l D cy G S sz yX7_phaseOf (Cond.code yX7_phaseOf cX7_phaseOf 4 (some .int) :: wG) (rm_X7_phaseOf mc ms) [.ref a0, .int a1, .int a2] mc ms post postX := by
  refine q_startX hG (Qc := fun A => va_Qi post (p_Post D cy A) A) (XC := fun A => p_XC D cy A postX) mf_X7_phaseOf (Nat.le_of_ble_eq_true rfl) (own := RX7) rfl ?_
  intro p e s m below meth c A X hr hlk hnm htab ls hl hH
  have hx := X.1.1
  have hb := X.1.2.1
  replace hl : lv_has ls 4 [(0, .ref a0), (1, .int a1), (2, .int a2)] := hl
  have main : ∀ (H : Heap) (locs : List Loc) (ls : Array Slot) (cells slots bc bs : Nat), f_X7_phaseOf S a0 a1 a2 bc bs post postX → p_H D cy S A s H locs → lv_has ls 4 [(0, .ref a0), (1, .int a1), (2, .int a2)] → cells + bc ≤ mc ∧ slots + bs ≤ ms → W p l e (rm_X7_phaseOf mc ms) s m [.ref a0, .int a1, .int a2].toArray below meth c H locs cells slots (vx_MQ below (va_Qi post (p_Post D cy A) A) (p_XC D cy A postX) [.ref a0, .int a1, .int a2].toArray s mc ms A) (F0 m 0 ls []) := by
    intro H locs ls cells slots bc bs hf hH hl hB
    refine lv_aload_n hx hb dX7_phaseOf_0 rfl (lv_at hl 0 rfl) ?_
    refine lv_iload_n hx hb dX7_phaseOf_1 rfl (lv_at hl 1 rfl) ?_
    obtain ⟨hb1, hb2, hf⟩ := hf
    refine q_backI0 X hH (q_runV [.int a1] [] X hH hl (c_X7_hasPhase l D cy G X.2.2.2.1 S a0 a1 _ _ hf) mf_X7_hasPhase mv_X7_hasPhase tw_452 ⟨Nat.le_of_ble_eq_true rfl, Nat.le_of_ble_eq_true rfl⟩ hb1 hb2 (T := TX7) (N := 12) rfl rfl (Nat.le_of_ble_eq_true rfl) dX7_phaseOf_2 ⟨Nat.le_trans (Nat.le_add_right _ _) hB.1, Nat.le_trans (Nat.le_add_right _ _) hB.2⟩) (fun v2 S1 hf H locs hH => ?_)
    refine lv_if_ne (tgt := 18) hx hb dX7_phaseOf_5 (by decide) (fun c3 => ?_) (fun c3 => ?_)
    · have hf := (if_neg c3).mp hf
      refine lv_aload_n hx hb dX7_phaseOf_18 rfl (lv_at hl 0 rfl) ?_
      refine q_getR (T := TX7) (N := 12) X hH hf iw_X7 rfl (by decide) tw_257 (fun _ h => h) dX7_phaseOf_19 (fun v4 hf => ?_)
      refine lv_aload_n hx hb dX7_phaseOf_22 rfl (lv_at hl 0 rfl) ?_
      refine q_getR (T := TX7) (N := 12) X hH hf iw_X7 rfl (by decide) tw_253 (fun _ h => h) dX7_phaseOf_23 (fun v5 hf => ?_)
      obtain ⟨hb1, hb2, hf⟩ := hf
      refine q_backV0 X hH (q_runV [.ref v5] [] X hH hl (c_X3_measure l D cy G X.2.2.2.1 S1 v4 v5 _ _ hf) mf_X3_measure mv_X3_measure tw_457 ⟨Nat.le_of_ble_eq_true rfl, Nat.le_of_ble_eq_true rfl⟩ hb1 hb2 (T := TX3) (N := 6) rfl rfl (Nat.le_of_ble_eq_true rfl) dX7_phaseOf_26 ⟨Nat.le_trans (Nat.le_add_right _ _) hB.1, Nat.le_trans (Nat.le_add_right _ _) hB.2⟩) (fun S6 hf H locs hH => ?_)
      refine lv_aload_n hx hb dX7_phaseOf_29 rfl (lv_at hl 0 rfl) ?_
      refine q_getR (T := TX7) (N := 12) X hH hf iw_X7 rfl (by decide) tw_257 (fun _ h => h) dX7_phaseOf_30 (fun v8 hf => ?_)
      refine lv_iload_n hx hb dX7_phaseOf_33 rfl (lv_at hl 1 rfl) ?_
      obtain ⟨hb1, hb2, hf⟩ := hf
      refine q_backI0 X hH (q_runV [.int a1] [] X hH hl (c_X3_groupsIn l D cy G X.2.2.2.1 S6 v8 a1 _ _ hf) mf_X3_groupsIn mv_X3_groupsIn tw_501 ⟨Nat.le_of_ble_eq_true rfl, Nat.le_of_ble_eq_true rfl⟩ hb1 hb2 (T := TX3) (N := 6) rfl rfl (Nat.le_of_ble_eq_true rfl) dX7_phaseOf_34 ⟨Nat.le_trans (Nat.le_add_right _ _) hB.1, Nat.le_trans (Nat.le_add_right _ _) hB.2⟩) (fun v10 S9 hf H locs hH => ?_)
      refine lv_istore_n (lv' := [(3, .int v10), (0, .ref a0), (1, .int a1), (2, .int a2)]) hx hb dX7_phaseOf_37 rfl hl (by decide) rfl (fun ls hl => ?_)
      refine lv_iload_n hx hb dX7_phaseOf_38 rfl (lv_at hl 3 rfl) ?_
      by_cases c11 : a2 = 0
      · have hf := (if_pos c11).mp hf
        refine lv_tableIn (off := 33) (tgt := 72) hx hb dX7_phaseOf_39 (by rw [c11]; decide) (by rw [c11]; decide) (by rw [c11]; rfl) (by decide) ?_
        refine lv_aload_n hx hb dX7_phaseOf_72 rfl (lv_at hl 1 rfl) ?_
        refine q_getR (T := TX7) (N := 12) X hH hf iw_X7 rfl (by decide) tw_257 (fun _ h => h) dX7_phaseOf_73 (fun v12 hf => ?_)
        refine lv_iload_n hx hb dX7_phaseOf_76 rfl (lv_at hl 2 rfl) ?_
        obtain ⟨hb1, hb2, hf⟩ := hf
        refine q_backI0 X hH (q_runV [.int a1] [] X hH hl (c_X3_cutOf l D cy G X.2.2.2.1 S9 v12 a1 _ _ hf) mf_X3_cutOf mv_X3_cutOf tw_502 ⟨Nat.le_of_ble_eq_true rfl, Nat.le_of_ble_eq_true rfl⟩ hb1 hb2 (T := TX3) (N := 6) rfl rfl (Nat.le_of_ble_eq_true rfl) dX7_phaseOf_77 ⟨Nat.le_trans (Nat.le_add_right _ _) hB.1, Nat.le_trans (Nat.le_add_right _ _) hB.2⟩) (fun v14 S13 hf H locs hH => ?_)
        exact vx_ret (q_retI X hH hr hlk hf (Nat.le_trans (Nat.le_add_right _ _) hB.1) (Nat.le_trans (Nat.le_add_right _ _) hB.2) dX7_phaseOf_80)
      · have hf := (if_neg c11).mp hf
        by_cases c15 : a2 = 1
        · have hf := (if_pos c15).mp hf
          refine lv_tableIn (off := 42) (tgt := 81) hx hb dX7_phaseOf_39 (by rw [c15]; decide) (by rw [c15]; decide) (by rw [c15]; rfl) (by decide) ?_
          refine lv_iload_n hx hb dX7_phaseOf_81 rfl (lv_at hl 0 rfl) ?_
          exact vx_ret (q_retI X hH hr hlk hf (Nat.le_trans (Nat.le_add_right _ _) hB.1) (Nat.le_trans (Nat.le_add_right _ _) hB.2) dX7_phaseOf_82)
        · have hf := (if_neg c15).mp hf
          by_cases c16 : a2 = 2
          · have hf := (if_pos c16).mp hf
            refine lv_tableIn (off := 44) (tgt := 83) hx hb dX7_phaseOf_39 (by rw [c16]; decide) (by rw [c16]; decide) (by rw [c16]; rfl) (by decide) ?_
            refine lv_aload_n hx hb dX7_phaseOf_83 rfl (lv_at hl 1 rfl) ?_
            refine q_getR (T := TX7) (N := 12) X hH hf iw_X7 rfl (by decide) tw_257 (fun _ h => h) dX7_phaseOf_84 (fun v17 hf => ?_)
            refine lv_iload_n hx hb dX7_phaseOf_87 rfl (lv_at hl 2 rfl) ?_
            refine lv_iload_n hx hb dX7_phaseOf_88 rfl (lv_at hl 0 rfl) ?_
            refine lv_iconst (v := 1) hx hb dX7_phaseOf_89 (by decide) ?_
            refine lv_isub hx hb dX7_phaseOf_90 ?_
            obtain ⟨hb1, hb2, hf⟩ := hf
            refine q_backI0 X hH (q_runV [.int a1, .int (v10 - 1)] [] X hH hl (c_X3_groupAt l D cy G X.2.2.2.1 S9 v17 a1 (v10 - 1) _ _ hf) mf_X3_groupAt mv_X3_groupAt tw_510 ⟨Nat.le_of_ble_eq_true rfl, Nat.le_of_ble_eq_true rfl⟩ hb1 hb2 (T := TX3) (N := 6) rfl rfl (Nat.le_of_ble_eq_true rfl) dX7_phaseOf_91 ⟨Nat.le_trans (Nat.le_add_right _ _) hB.1, Nat.le_trans (Nat.le_add_right _ _) hB.2⟩) (fun v19 S18 hf H locs hH => ?_)
            refine q_backI0 X hH (q_runS [.int v19] [] X hH hl (c_X7_lowestOf l D cy G X.2.2.2.1 S18 v19 _ _ hf) mf_X7_lowestOf tw_492 tw_511 ⟨Nat.le_of_ble_eq_true rfl, Nat.le_of_ble_eq_true rfl⟩ rfl (Nat.le_of_ble_eq_true rfl) dX7_phaseOf_94 ⟨Nat.le_trans (Nat.le_add_right _ _) hB.1, Nat.le_trans (Nat.le_add_right _ _) hB.2⟩) (fun v21 S20 hf H locs hH => ?_)
            exact vx_ret (q_retI X hH hr hlk hf (Nat.le_trans (Nat.le_add_right _ _) hB.1) (Nat.le_trans (Nat.le_add_right _ _) hB.2) dX7_phaseOf_97)
          · have hf := (if_neg c16).mp hf
            by_cases c22 : a2 = 3
            · have hf := (if_pos c22).mp hf
              refine lv_tableIn (off := 59) (tgt := 98) hx hb dX7_phaseOf_39 (by rw [c22]; decide) (by rw [c22]; decide) (by rw [c22]; rfl) (by decide) ?_
              refine lv_aload_n hx hb dX7_phaseOf_98 rfl (lv_at hl 1 rfl) ?_
              refine q_getR (T := TX7) (N := 12) X hH hf iw_X7 rfl (by decide) tw_257 (fun _ h => h) dX7_phaseOf_99 (fun v23 hf => ?_)
              refine lv_iload_n hx hb dX7_phaseOf_102 rfl (lv_at hl 2 rfl) ?_
              refine lv_iload_n hx hb dX7_phaseOf_103 rfl (lv_at hl 0 rfl) ?_
              refine lv_iconst (v := 2) hx hb dX7_phaseOf_104 (by decide) ?_
              refine lv_isub hx hb dX7_phaseOf_105 ?_
              obtain ⟨hb1, hb2, hf⟩ := hf
              refine q_backI0 X hH (q_runV [.int a1, .int (v10 - 2)] [] X hH hl (c_X3_groupAt l D cy G X.2.2.2.1 S9 v23 a1 (v10 - 2) _ _ hf) mf_X3_groupAt mv_X3_groupAt tw_510 ⟨Nat.le_of_ble_eq_true rfl, Nat.le_of_ble_eq_true rfl⟩ hb1 hb2 (T := TX3) (N := 6) rfl rfl (Nat.le_of_ble_eq_true rfl) dX7_phaseOf_106 ⟨Nat.le_trans (Nat.le_add_right _ _) hB.1, Nat.le_trans (Nat.le_add_right _ _) hB.2⟩) (fun v25 S24 hf H locs hH => ?_)
              refine q_backI0 X hH (q_runS [.int v25] [] X hH hl (c_X7_lowestOf l D cy G X.2.2.2.1 S24 v25 _ _ hf) mf_X7_lowestOf tw_492 tw_511 ⟨Nat.le_of_ble_eq_true rfl, Nat.le_of_ble_eq_true rfl⟩ rfl (Nat.le_of_ble_eq_true rfl) dX7_phaseOf_109 ⟨Nat.le_trans (Nat.le_add_right _ _) hB.1, Nat.le_trans (Nat.le_add_right _ _) hB.2⟩) (fun v27 S26 hf H locs hH => ?_)
              exact vx_ret (q_retI X hH hr hlk hf (Nat.le_trans (Nat.le_add_right _ _) hB.1) (Nat.le_trans (Nat.le_add_right _ _) hB.2) dX7_phaseOf_112)
            · have hf := (if_neg c22).mp hf
              by_cases c28 : a2 = 4
              · have hf := (if_pos c28).mp hf
                refine lv_tableIn (off := 74) (tgt := 113) hx hb dX7_phaseOf_39 (by rw [c28]; decide) (by rw [c28]; decide) (by rw [c28]; rfl) (by decide) ?_
                refine lv_aload_n hx hb dX7_phaseOf_113 rfl (lv_at hl 1 rfl) ?_
                refine q_getR (T := TX7) (N := 12) X hH hf iw_X7 rfl (by decide) tw_257 (fun _ h => h) dX7_phaseOf_114 (fun v29 hf => ?_)
                refine lv_iload_n hx hb dX7_phaseOf_117 rfl (lv_at hl 2 rfl) ?_
                refine lv_iload_n hx hb dX7_phaseOf_118 rfl (lv_at hl 0 rfl) ?_
                refine lv_iconst (v := 1) hx hb dX7_phaseOf_119 (by decide) ?_
                refine lv_isub hx hb dX7_phaseOf_120 ?_
                obtain ⟨hb1, hb2, hf⟩ := hf
                refine q_backI0 X hH (q_runV [.int a1, .int (v10 - 1)] [] X hH hl (c_X3_groupAt l D cy G X.2.2.2.1 S9 v29 a1 (v10 - 1) _ _ hf) mf_X3_groupAt mv_X3_groupAt tw_510 ⟨Nat.le_of_ble_eq_true rfl, Nat.le_of_ble_eq_true rfl⟩ hb1 hb2 (T := TX3) (N := 6) rfl rfl (Nat.le_of_ble_eq_true rfl) dX7_phaseOf_121 ⟨Nat.le_trans (Nat.le_add_right _ _) hB.1, Nat.le_trans (Nat.le_add_right _ _) hB.2⟩) (fun v31 S30 hf H locs hH => ?_)
                exact vx_ret (q_retI X hH hr hlk hf (Nat.le_trans (Nat.le_add_right _ _) hB.1) (Nat.le_trans (Nat.le_add_right _ _) hB.2) dX7_phaseOf_124)
              · have hf := (if_neg c28).mp hf
                refine lv_tableOut (tgt := 125) hx hb dX7_phaseOf_39 (by have z0 := lv_neT c11 (a := 0) rfl; have z1 := lv_neT c15 (a := 1) rfl; have z2 := lv_neT c16 (a := 2) rfl; have z3 := lv_neT c22 (a := 3) rfl; have z4 := lv_neT c28 (a := 4) rfl; omega) (by decide) ?_
                exact q_throw X hH hl hB rfl rfl hst (hGE _ _ _ X.2.2.2.2) hf tw_406 tw_48 (text := "what is not 0 to 4") (List.mem_of_getElem? (i := 9) rfl) xa_IllegalArgumentException xg_IllegalArgumentException (by decide +kernel) (by decide +kernel) dX7_phaseOf_125 dX7_phaseOf_128 dX7_phaseOf_129 dX7_phaseOf_131 dX7_phaseOf_134 htab ⟨Nat.le_of_ble_eq_true rfl, Nat.le_of_ble_eq_true rfl⟩ (Nat.le_of_ble_eq_true rfl) hlk
    · have hf := (if_pos c3).mp hf
      exact q_throw X hH hl hB rfl rfl hst (hGE _ _ _ X.2.2.2.2) hf tw_298 tw_52 (text := "there is no such phase") (List.mem_of_getElem? (i := 8) rfl) xa_IndexOutOfBoundsException xg_IndexOutOfBoundsException (by decide +kernel) (by decide +kernel) dX7_phaseOf_8 dX7_phaseOf_11 dX7_phaseOf_12 dX7_phaseOf_14 dX7_phaseOf_17 htab ⟨Nat.le_of_ble_eq_true rfl, Nat.le_of_ble_eq_true rfl⟩ (Nat.le_of_ble_eq_true rfl) hlk
  exact main s.heap [] ls 0 0 mc ms hf hH hl ⟨by omega, by omega⟩
-- X7_joined
def f_X7_joined (S : PS) (a0 : Nat) (a1 : Int32) (a2 : Int32) (bc bs : Nat) (post : Int32 → PS → Prop) (postX : String → PS → Prop) : Prop :=
  isO S a0 11 (
  f_X7_hasPhase S a0 a1 fun v2 S1 => (
  if v2 = 0 then
    tX S1 "java/lang/IndexOutOfBoundsException" bc bs postX
  else
    gR S1 a0 11 4 fun v4 => (
    gR S1 a0 11 0 fun v5 => (
    isO S1 v4 7 (
    f_X3_measure S1 v4 v5 fun S6 => (
    gR S6 a0 11 4 fun v8 => (
    isO S6 v8 7 (
    f_X3_hasPlace S6 v8 a1 a2 fun v10 S9 => (
    if v10 = 0 then
      tX S9 "java/util/NoSuchElementException" bc bs postX
    else
      gR S9 a0 11 4 fun v12 => (
      isO S9 v12 7 (
      f_X3_groupAt S9 v12 a1 a2 fun v14 S13 => (
      f_X7_lowestOf S13 v14 fun v16 S15 => (
      post v16 S15)))))))))))))
abbrev rm_X7_joined (mc ms : Nat) : Room := { frames := 6, cells := mc, slots := ms, locals := 94 }
set_option maxHeartbeats 4000000 in
set_option maxRecDepth 100000 in
theorem c_X7_joined (l : Launch) (D : va_G) (cy : Nat → ClassId) (G : p_GT) (hG : p_ok G) (hst : l.stackTraces = false) (hGE : ∀ (A : Nat → Prop) (U : State) (H : Heap), G A U H → p_Ex A U H) (S : PS) (a0 : Nat) (a1 : Int32) (a2 : Int32) (mc ms : Nat) (post : Int32 → PS → Prop) (postX : String → PS → Prop) (sz : Nat) (hf : f_X7_joined S a0 a1 a2 mc ms post postX) : p_Xi l D cy G S sz yX7_joined (Cond.code yX7_joined cX7_joined 3 (some .int) :: wG) (rm_X7_joined mc ms) [.ref a0, .int a1, .int a2] mc ms post postX := by
  refine q_startX hG (Qc := fun A => va_Qi post (p_Post D cy A) A) (XC := fun A => p_XC D cy A postX) mf_X7_joined (Nat.le_of_ble_eq_true rfl) (own := RX7) rfl ?_
  intro p e s m below meth c A X hr hlk hnm htab ls hl hH
  have hx := X.1.1
  have hb := X.1.2.1
  replace hl : lv_has ls 3 [(0, .ref a0), (1, .int a1), (2, .int a2)] := hl
  have main : ∀ (H : Heap) (locs : List Loc) (ls : Array Slot) (cells slots bc bs : Nat), f_X7_joined S a0 a1 a2 bc bs post postX → p_H D cy S A s H locs → lv_has ls 3 [(0, .ref a0), (1, .int a1), (2, .int a2)] → cells + bc ≤ mc ∧ slots + bs ≤ ms → W p l e (rm_X7_joined mc ms) s m [.ref a0, .int a1, .int a2].toArray below meth c H locs cells slots (vx_MQ below (va_Qi post (p_Post D cy A) A) (p_XC D cy A postX) [.ref a0, .int a1, .int a2].toArray s mc ms A) (F0 m 0 ls []) := by
    intro H locs ls cells slots bc bs hf hH hl hB
    refine lv_aload_n hx hb dX7_joined_0 rfl (lv_at hl 0 rfl) ?_
    refine lv_iload_n hx hb dX7_joined_1 rfl (lv_at hl 1 rfl) ?_
    obtain ⟨hb1, hb2, hf⟩ := hf
    refine q_backI0 X hH (q_runV [.int a1] [] X hH hl (c_X7_hasPhase l D cy G X.2.2.2.1 S a0 a1 _ _ hf) mf_X7_hasPhase mv_X7_hasPhase tw_452 ⟨Nat.le_of_ble_eq_true rfl, Nat.le_of_ble_eq_true rfl⟩ hb1 hb2 (T := TX7) (N := 12) rfl rfl (Nat.le_of_ble_eq_true rfl) dX7_joined_2 ⟨Nat.le_trans (Nat.le_add_right _ _) hB.1, Nat.le_trans (Nat.le_add_right _ _) hB.2⟩) (fun v2 S1 hf H locs hH => ?_)
    refine lv_if_ne (tgt := 18) hx hb dX7_joined_5 (by decide) (fun c3 => ?_) (fun c3 => ?_)
    · have hf := (if_neg c3).mp hf
      refine lv_aload_n hx hb dX7_joined_18 rfl (lv_at hl 0 rfl) ?_
      refine q_getR (T := TX7) (N := 12) X hH hf iw_X7 rfl (by decide) tw_257 (fun _ h => h) dX7_joined_19 (fun v4 hf => ?_)
      refine lv_aload_n hx hb dX7_joined_22 rfl (lv_at hl 0 rfl) ?_
      refine q_getR (T := TX7) (N := 12) X hH hf iw_X7 rfl (by decide) tw_253 (fun _ h => h) dX7_joined_23 (fun v5 hf => ?_)
      obtain ⟨hb1, hb2, hf⟩ := hf
      refine q_backV0 X hH (q_runV [.ref v5] [] X hH hl (c_X3_measure l D cy G X.2.2.2.1 S1 v4 v5 _ _ hf) mf_X3_measure mv_X3_measure tw_457 ⟨Nat.le_of_ble_eq_true rfl, Nat.le_of_ble_eq_true rfl⟩ hb1 hb2 (T := TX3) (N := 6) rfl rfl (Nat.le_of_ble_eq_true rfl) dX7_joined_26 ⟨Nat.le_trans (Nat.le_add_right _ _) hB.1, Nat.le_trans (Nat.le_add_right _ _) hB.2⟩) (fun S6 hf H locs hH => ?_)
      refine lv_aload_n hx hb dX7_joined_29 rfl (lv_at hl 0 rfl) ?_
      refine q_getR (T := TX7) (N := 12) X hH hf iw_X7 rfl (by decide) tw_257 (fun _ h => h) dX7_joined_30 (fun v8 hf => ?_)
      refine lv_iload_n hx hb dX7_joined_33 rfl (lv_at hl 1 rfl) ?_
      refine lv_iload_n hx hb dX7_joined_34 rfl (lv_at hl 2 rfl) ?_
      obtain ⟨hb1, hb2, hf⟩ := hf
      refine q_backI0 X hH (q_runV [.int a1, .int a2] [] X hH hl (c_X3_hasPlace l D cy G X.2.2.2.1 S6 v8 a1 a2 _ _ hf) mf_X3_hasPlace mv_X3_hasPlace tw_517 ⟨Nat.le_of_ble_eq_true rfl, Nat.le_of_ble_eq_true rfl⟩ hb1 hb2 (T := TX3) (N := 6) rfl rfl (Nat.le_of_ble_eq_true rfl) dX7_joined_35 ⟨Nat.le_trans (Nat.le_add_right _ _) hB.1, Nat.le_trans (Nat.le_add_right _ _) hB.2⟩) (fun v10 S9 hf H locs hH => ?_)
      refine lv_if_ne (tgt := 51) hx hb dX7_joined_38 (by decide) (fun c11 => ?_) (fun c11 => ?_)
      · have hf := (if_neg c11).mp hf
        refine lv_aload_n hx hb dX7_joined_51 rfl (lv_at hl 0 rfl) ?_
        refine q_getR (T := TX7) (N := 12) X hH hf iw_X7 rfl (by decide) tw_257 (fun _ h => h) dX7_joined_52 (fun v12 hf => ?_)
        refine lv_iload_n hx hb dX7_joined_55 rfl (lv_at hl 1 rfl) ?_
        refine lv_iload_n hx hb dX7_joined_56 rfl (lv_at hl 2 rfl) ?_
        obtain ⟨hb1, hb2, hf⟩ := hf
        refine q_backI0 X hH (q_runV [.int a1, .int a2] [] X hH hl (c_X3_groupAt l D cy G X.2.2.2.1 S9 v12 a1 a2 _ _ hf) mf_X3_groupAt mv_X3_groupAt tw_510 ⟨Nat.le_of_ble_eq_true rfl, Nat.le_of_ble_eq_true rfl⟩ hb1 hb2 (T := TX3) (N := 6) rfl rfl (Nat.le_of_ble_eq_true rfl) dX7_joined_57 ⟨Nat.le_trans (Nat.le_add_right _ _) hB.1, Nat.le_trans (Nat.le_add_right _ _) hB.2⟩) (fun v14 S13 hf H locs hH => ?_)
        refine q_backI0 X hH (q_runS [.int v14] [] X hH hl (c_X7_lowestOf l D cy G X.2.2.2.1 S13 v14 _ _ hf) mf_X7_lowestOf tw_492 tw_511 ⟨Nat.le_of_ble_eq_true rfl, Nat.le_of_ble_eq_true rfl⟩ rfl (Nat.le_of_ble_eq_true rfl) dX7_joined_60 ⟨Nat.le_trans (Nat.le_add_right _ _) hB.1, Nat.le_trans (Nat.le_add_right _ _) hB.2⟩) (fun v16 S15 hf H locs hH => ?_)
        exact vx_ret (q_retI X hH hr hlk hf (Nat.le_trans (Nat.le_add_right _ _) hB.1) (Nat.le_trans (Nat.le_add_right _ _) hB.2) dX7_joined_63)
      · have hf := (if_pos c11).mp hf
        exact q_throwX (by decide +kernel) (by decide +kernel) (by decide +kernel) (by decide +kernel) X hH hl hB rfl rfl hst (hGE _ _ _ X.2.2.2.2) hf tw_518 tw_49 (text := "there is no such place") (List.mem_of_getElem? (i := 10) rfl) xa_NoSuchElementException xg_NoSuchElementException (by decide +kernel) (by decide +kernel) dX7_joined_41 dX7_joined_44 dX7_joined_45 dX7_joined_47 dX7_joined_50 htab ⟨Nat.le_of_ble_eq_true rfl, Nat.le_of_ble_eq_true rfl⟩ (Nat.le_of_ble_eq_true rfl) hlk
    · have hf := (if_pos c3).mp hf
      exact q_throw X hH hl hB rfl rfl hst (hGE _ _ _ X.2.2.2.2) hf tw_298 tw_52 (text := "there is no such phase") (List.mem_of_getElem? (i := 8) rfl) xa_IndexOutOfBoundsException xg_IndexOutOfBoundsException (by decide +kernel) (by decide +kernel) dX7_joined_8 dX7_joined_11 dX7_joined_12 dX7_joined_14 dX7_joined_17 htab ⟨Nat.le_of_ble_eq_true rfl, Nat.le_of_ble_eq_true rfl⟩ (Nat.le_of_ble_eq_true rfl) hlk
  exact main s.heap [] ls 0 0 mc ms hf hH hl ⟨by omega, by omega⟩
-- X7_tieAt
def f_X7_tieAt (S : PS) (a0 : Nat) (a1 : Int32) (a2 : Int32) (bc bs : Nat) (post : Int32 → PS → Prop) (postX : String → PS → Prop) : Prop :=
  isO S a0 11 (
  f_X7_hasPhase S a0 a1 fun v2 S1 => (
  if v2 = 0 then
    tX S1 "java/lang/IndexOutOfBoundsException" bc bs postX
  else
    gR S1 a0 11 4 fun v4 => (
    gR S1 a0 11 0 fun v5 => (
    isO S1 v4 7 (
    f_X3_measure S1 v4 v5 fun S6 => (
    gR S6 a0 11 4 fun v8 => (
    isO S6 v8 7 (
    f_X3_hasPlace S6 v8 a1 a2 fun v10 S9 => (
    if v10 = 0 then
      tX S9 "java/util/NoSuchElementException" bc bs postX
    else
      gR S9 a0 11 4 fun v12 => (
      isO S9 v12 7 (
      f_X3_pullAt S9 v12 a1 a2 fun v14 S13 => (
      post v14 S13))))))))))))
abbrev rm_X7_tieAt (mc ms : Nat) : Room := { frames := 6, cells := mc, slots := ms, locals := 94 }
set_option maxHeartbeats 4000000 in
set_option maxRecDepth 100000 in
theorem c_X7_tieAt (l : Launch) (D : va_G) (cy : Nat → ClassId) (G : p_GT) (hG : p_ok G) (hst : l.stackTraces = false) (hGE : ∀ (A : Nat → Prop) (U : State) (H : Heap), G A U H → p_Ex A U H) (S : PS) (a0 : Nat) (a1 : Int32) (a2 : Int32) (mc ms : Nat) (post : Int32 → PS → Prop) (postX : String → PS → Prop) (sz : Nat) (hf : f_X7_tieAt S a0 a1 a2 mc ms post postX) : p_Xi l D cy G S sz yX7_tieAt (Cond.code yX7_tieAt cX7_tieAt 3 (some .int) :: wG) (rm_X7_tieAt mc ms) [.ref a0, .int a1, .int a2] mc ms post postX := by
  refine q_startX hG (Qc := fun A => va_Qi post (p_Post D cy A) A) (XC := fun A => p_XC D cy A postX) mf_X7_tieAt (Nat.le_of_ble_eq_true rfl) (own := RX7) rfl ?_
  intro p e s m below meth c A X hr hlk hnm htab ls hl hH
  have hx := X.1.1
  have hb := X.1.2.1
  replace hl : lv_has ls 3 [(0, .ref a0), (1, .int a1), (2, .int a2)] := hl
  have main : ∀ (H : Heap) (locs : List Loc) (ls : Array Slot) (cells slots bc bs : Nat), f_X7_tieAt S a0 a1 a2 bc bs post postX → p_H D cy S A s H locs → lv_has ls 3 [(0, .ref a0), (1, .int a1), (2, .int a2)] → cells + bc ≤ mc ∧ slots + bs ≤ ms → W p l e (rm_X7_tieAt mc ms) s m [.ref a0, .int a1, .int a2].toArray below meth c H locs cells slots (vx_MQ below (va_Qi post (p_Post D cy A) A) (p_XC D cy A postX) [.ref a0, .int a1, .int a2].toArray s mc ms A) (F0 m 0 ls []) := by
    intro H locs ls cells slots bc bs hf hH hl hB
    refine lv_aload_n hx hb dX7_tieAt_0 rfl (lv_at hl 0 rfl) ?_
    refine lv_iload_n hx hb dX7_tieAt_1 rfl (lv_at hl 1 rfl) ?_
    obtain ⟨hb1, hb2, hf⟩ := hf
    refine q_backI0 X hH (q_runV [.int a1] [] X hH hl (c_X7_hasPhase l D cy G X.2.2.2.1 S a0 a1 _ _ hf) mf_X7_hasPhase mv_X7_hasPhase tw_452 ⟨Nat.le_of_ble_eq_true rfl, Nat.le_of_ble_eq_true rfl⟩ hb1 hb2 (T := TX7) (N := 12) rfl rfl (Nat.le_of_ble_eq_true rfl) dX7_tieAt_2 ⟨Nat.le_trans (Nat.le_add_right _ _) hB.1, Nat.le_trans (Nat.le_add_right _ _) hB.2⟩) (fun v2 S1 hf H locs hH => ?_)
    refine lv_if_ne (tgt := 18) hx hb dX7_tieAt_5 (by decide) (fun c3 => ?_) (fun c3 => ?_)
    · have hf := (if_neg c3).mp hf
      refine lv_aload_n hx hb dX7_tieAt_18 rfl (lv_at hl 0 rfl) ?_
      refine q_getR (T := TX7) (N := 12) X hH hf iw_X7 rfl (by decide) tw_257 (fun _ h => h) dX7_tieAt_19 (fun v4 hf => ?_)
      refine lv_aload_n hx hb dX7_tieAt_22 rfl (lv_at hl 0 rfl) ?_
      refine q_getR (T := TX7) (N := 12) X hH hf iw_X7 rfl (by decide) tw_253 (fun _ h => h) dX7_tieAt_23 (fun v5 hf => ?_)
      obtain ⟨hb1, hb2, hf⟩ := hf
      refine q_backV0 X hH (q_runV [.ref v5] [] X hH hl (c_X3_measure l D cy G X.2.2.2.1 S1 v4 v5 _ _ hf) mf_X3_measure mv_X3_measure tw_457 ⟨Nat.le_of_ble_eq_true rfl, Nat.le_of_ble_eq_true rfl⟩ hb1 hb2 (T := TX3) (N := 6) rfl rfl (Nat.le_of_ble_eq_true rfl) dX7_tieAt_26 ⟨Nat.le_trans (Nat.le_add_right _ _) hB.1, Nat.le_trans (Nat.le_add_right _ _) hB.2⟩) (fun S6 hf H locs hH => ?_)
      refine lv_aload_n hx hb dX7_tieAt_29 rfl (lv_at hl 0 rfl) ?_
      refine q_getR (T := TX7) (N := 12) X hH hf iw_X7 rfl (by decide) tw_257 (fun _ h => h) dX7_tieAt_30 (fun v8 hf => ?_)
      refine lv_iload_n hx hb dX7_tieAt_33 rfl (lv_at hl 1 rfl) ?_
      refine lv_iload_n hx hb dX7_tieAt_34 rfl (lv_at hl 2 rfl) ?_
      obtain ⟨hb1, hb2, hf⟩ := hf
      refine q_backI0 X hH (q_runV [.int a1, .int a2] [] X hH hl (c_X3_hasPlace l D cy G X.2.2.2.1 S6 v8 a1 a2 _ _ hf) mf_X3_hasPlace mv_X3_hasPlace tw_517 ⟨Nat.le_of_ble_eq_true rfl, Nat.le_of_ble_eq_true rfl⟩ hb1 hb2 (T := TX3) (N := 6) rfl rfl (Nat.le_of_ble_eq_true rfl) dX7_tieAt_35 ⟨Nat.le_trans (Nat.le_add_right _ _) hB.1, Nat.le_trans (Nat.le_add_right _ _) hB.2⟩) (fun v10 S9 hf H locs hH => ?_)
      refine lv_if_ne (tgt := 51) hx hb dX7_tieAt_38 (by decide) (fun c11 => ?_) (fun c11 => ?_)
      · have hf := (if_neg c11).mp hf
        refine lv_aload_n hx hb dX7_tieAt_51 rfl (lv_at hl 0 rfl) ?_
        refine q_getR (T := TX7) (N := 12) X hH hf iw_X7 rfl (by decide) tw_257 (fun _ h => h) dX7_tieAt_52 (fun v12 hf => ?_)
        refine lv_iload_n hx hb dX7_tieAt_55 rfl (lv_at hl 1 rfl) ?_
        refine lv_iload_n hx hb dX7_tieAt_56 rfl (lv_at hl 2 rfl) ?_
        obtain ⟨hb1, hb2, hf⟩ := hf
        refine q_backI0 X hH (q_runV [.int a1, .int a2] [] X hH hl (c_X3_pullAt l D cy G X.2.2.2.1 S9 v12 a1 a2 _ _ hf) mf_X3_pullAt mv_X3_pullAt tw_534 ⟨Nat.le_of_ble_eq_true rfl, Nat.le_of_ble_eq_true rfl⟩ hb1 hb2 (T := TX3) (N := 6) rfl rfl (Nat.le_of_ble_eq_true rfl) dX7_tieAt_57 ⟨Nat.le_trans (Nat.le_add_right _ _) hB.1, Nat.le_trans (Nat.le_add_right _ _) hB.2⟩) (fun v14 S13 hf H locs hH => ?_)
        exact vx_ret (q_retI X hH hr hlk hf (Nat.le_trans (Nat.le_add_right _ _) hB.1) (Nat.le_trans (Nat.le_add_right _ _) hB.2) dX7_tieAt_60)
      · have hf := (if_pos c11).mp hf
        exact q_throwX (by decide +kernel) (by decide +kernel) (by decide +kernel) (by decide +kernel) X hH hl hB rfl rfl hst (hGE _ _ _ X.2.2.2.2) hf tw_518 tw_49 (text := "there is no such place") (List.mem_of_getElem? (i := 10) rfl) xa_NoSuchElementException xg_NoSuchElementException (by decide +kernel) (by decide +kernel) dX7_tieAt_41 dX7_tieAt_44 dX7_tieAt_45 dX7_tieAt_47 dX7_tieAt_50 htab ⟨Nat.le_of_ble_eq_true rfl, Nat.le_of_ble_eq_true rfl⟩ (Nat.le_of_ble_eq_true rfl) hlk
    · have hf := (if_pos c3).mp hf
      exact q_throw X hH hl hB rfl rfl hst (hGE _ _ _ X.2.2.2.2) hf tw_298 tw_52 (text := "there is no such phase") (List.mem_of_getElem? (i := 8) rfl) xa_IndexOutOfBoundsException xg_IndexOutOfBoundsException (by decide +kernel) (by decide +kernel) dX7_tieAt_8 dX7_tieAt_11 dX7_tieAt_12 dX7_tieAt_14 dX7_tieAt_17 htab ⟨Nat.le_of_ble_eq_true rfl, Nat.le_of_ble_eq_true rfl⟩ (Nat.le_of_ble_eq_true rfl) hlk
  exact main s.heap [] ls 0 0 mc ms hf hH hl ⟨by omega, by omega⟩
-- X7_met
def f_X7_met (S : PS) (a0 : Nat) (bc bs : Nat) (post : Int32 → PS → Prop) (postX : String → PS → Prop) : Prop :=
  isO S a0 11 (
  f_X7_isTooSmall S a0 fun v2 S1 => (
  if v2 = 0 then
    gR S1 a0 11 4 fun v4 => (
    gR S1 a0 11 0 fun v5 => (
    isO S1 v4 7 (
    f_X3_measure S1 v4 v5 fun S6 => (
    gR S6 a0 11 4 fun v8 => (
    isO S6 v8 7 (
    f_X3_leastPhase S6 v8 fun v10 S9 => (
    post v10 S9)))))))
  else
    tX S1 "java/util/NoSuchElementException" bc bs postX))
abbrev rm_X7_met (mc ms : Nat) : Room := { frames := 6, cells := mc, slots := ms, locals := 94 }
set_option maxHeartbeats 4000000 in
set_option maxRecDepth 100000 in
theorem c_X7_met (l : Launch) (D : va_G) (cy : Nat → ClassId) (G : p_GT) (hG : p_ok G) (hst : l.stackTraces = false) (hGE : ∀ (A : Nat → Prop) (U : State) (H : Heap), G A U H → p_Ex A U H) (S : PS) (a0 : Nat) (mc ms : Nat) (post : Int32 → PS → Prop) (postX : String → PS → Prop) (sz : Nat) (hf : f_X7_met S a0 mc ms post postX) : p_Xi l D cy G S sz yX7_met (Cond.code yX7_met cX7_met 1 (some .int) :: wG) (rm_X7_met mc ms) [.ref a0] mc ms post postX := by
  refine q_startX hG (Qc := fun A => va_Qi post (p_Post D cy A) A) (XC := fun A => p_XC D cy A postX) mf_X7_met (Nat.le_of_ble_eq_true rfl) (own := RX7) rfl ?_
  intro p e s m below meth c A X hr hlk hnm htab ls hl hH
  have hx := X.1.1
  have hb := X.1.2.1
  replace hl : lv_has ls 1 [(0, .ref a0)] := hl
  have main : ∀ (H : Heap) (locs : List Loc) (ls : Array Slot) (cells slots bc bs : Nat), f_X7_met S a0 bc bs post postX → p_H D cy S A s H locs → lv_has ls 1 [(0, .ref a0)] → cells + bc ≤ mc ∧ slots + bs ≤ ms → W p l e (rm_X7_met mc ms) s m [.ref a0].toArray below meth c H locs cells slots (vx_MQ below (va_Qi post (p_Post D cy A) A) (p_XC D cy A postX) [.ref a0].toArray s mc ms A) (F0 m 0 ls []) := by
    intro H locs ls cells slots bc bs hf hH hl hB
    refine lv_aload_n hx hb dX7_met_0 rfl (lv_at hl 0 rfl) ?_
    obtain ⟨hb1, hb2, hf⟩ := hf
    refine q_backI0 X hH (q_runV [] [] X hH hl (c_X7_isTooSmall l D cy G X.2.2.2.1 S a0 _ _ hf) mf_X7_isTooSmall mv_X7_isTooSmall tw_624 ⟨Nat.le_of_ble_eq_true rfl, Nat.le_of_ble_eq_true rfl⟩ hb1 hb2 (T := TX7) (N := 12) rfl rfl (Nat.le_of_ble_eq_true rfl) dX7_met_1 ⟨Nat.le_trans (Nat.le_add_right _ _) hB.1, Nat.le_trans (Nat.le_add_right _ _) hB.2⟩) (fun v2 S1 hf H locs hH => ?_)
    refine lv_if_eq (tgt := 17) hx hb dX7_met_4 (by decide) (fun c3 => ?_) (fun c3 => ?_)
    · have hf := (if_pos c3).mp hf
      refine lv_aload_n hx hb dX7_met_17 rfl (lv_at hl 0 rfl) ?_
      refine q_getR (T := TX7) (N := 12) X hH hf iw_X7 rfl (by decide) tw_257 (fun _ h => h) dX7_met_18 (fun v4 hf => ?_)
      refine lv_aload_n hx hb dX7_met_21 rfl (lv_at hl 0 rfl) ?_
      refine q_getR (T := TX7) (N := 12) X hH hf iw_X7 rfl (by decide) tw_253 (fun _ h => h) dX7_met_22 (fun v5 hf => ?_)
      obtain ⟨hb1, hb2, hf⟩ := hf
      refine q_backV0 X hH (q_runV [.ref v5] [] X hH hl (c_X3_measure l D cy G X.2.2.2.1 S1 v4 v5 _ _ hf) mf_X3_measure mv_X3_measure tw_457 ⟨Nat.le_of_ble_eq_true rfl, Nat.le_of_ble_eq_true rfl⟩ hb1 hb2 (T := TX3) (N := 6) rfl rfl (Nat.le_of_ble_eq_true rfl) dX7_met_25 ⟨Nat.le_trans (Nat.le_add_right _ _) hB.1, Nat.le_trans (Nat.le_add_right _ _) hB.2⟩) (fun S6 hf H locs hH => ?_)
      refine lv_aload_n hx hb dX7_met_28 rfl (lv_at hl 0 rfl) ?_
      refine q_getR (T := TX7) (N := 12) X hH hf iw_X7 rfl (by decide) tw_257 (fun _ h => h) dX7_met_29 (fun v8 hf => ?_)
      obtain ⟨hb1, hb2, hf⟩ := hf
      refine q_backI0 X hH (q_runV [] [] X hH hl (c_X3_leastPhase l D cy G X.2.2.2.1 S6 v8 _ _ hf) mf_X3_leastPhase mv_X3_leastPhase tw_653 ⟨Nat.le_of_ble_eq_true rfl, Nat.le_of_ble_eq_true rfl⟩ hb1 hb2 (T := TX3) (N := 6) rfl rfl (Nat.le_of_ble_eq_true rfl) dX7_met_32 ⟨Nat.le_trans (Nat.le_add_right _ _) hB.1, Nat.le_trans (Nat.le_add_right _ _) hB.2⟩) (fun v10 S9 hf H locs hH => ?_)
      exact vx_ret (q_retI X hH hr hlk hf (Nat.le_trans (Nat.le_add_right _ _) hB.1) (Nat.le_trans (Nat.le_add_right _ _) hB.2) dX7_met_35)
    · have hf := (if_neg c3).mp hf
      exact q_throwX (by decide +kernel) (by decide +kernel) (by decide +kernel) (by decide +kernel) X hH hl hB rfl rfl hst (hGE _ _ _ X.2.2.2.2) hf tw_518 tw_49 (text := "there are fewer than two households") (List.mem_of_getElem? (i := 6) rfl) xa_NoSuchElementException xg_NoSuchElementException (by decide +kernel) (by decide +kernel) dX7_met_7 dX7_met_10 dX7_met_11 dX7_met_13 dX7_met_16 htab ⟨Nat.le_of_ble_eq_true rfl, Nat.le_of_ble_eq_true rfl⟩ (Nat.le_of_ble_eq_true rfl) hlk
  exact main s.heap [] ls 0 0 mc ms hf hH hl ⟨by omega, by omega⟩
-- X7_betweenAgain
def f_X7_betweenAgain_J22 (post : Int32 → PS → Prop) (postX : String → PS → Prop) (S : PS) (bc bs : Nat)  : Prop :=
  tX S "java/lang/IndexOutOfBoundsException" bc bs postX
def f_X7_betweenAgain (S : PS) (a0 : Nat) (a1 : Int32) (a2 : Int32) (bc bs : Nat) (post : Int32 → PS → Prop) (postX : String → PS → Prop) : Prop :=
  gR S a0 11 0 fun v1 => (
  isO S v1 10 (
  f_X6_has S v1 a1 fun v3 S2 => (
  if v3 = 0 then
    f_X7_betweenAgain_J22 post postX S2 bc bs
  else
    gR S2 a0 11 0 fun v5 => (
    isO S2 v5 10 (
    f_X6_has S2 v5 a2 fun v7 S6 => (
    if v7 = 0 then
      f_X7_betweenAgain_J22 post postX S6 bc bs
    else
      if a1 = a2 then
        tX S6 "java/lang/IllegalArgumentException" bc bs postX
      else
        gR S6 a0 11 6 fun v10 => (
        gR S6 a0 11 0 fun v11 => (
        isO S6 v10 5 (
        f_X1_mostFlow S6 v10 v11 a1 a2 fun v13 S12 => (
        post v13 S12))))))))))
abbrev rm_X7_betweenAgain (mc ms : Nat) : Room := { frames := 6, cells := mc, slots := ms, locals := 96 }
set_option maxHeartbeats 4000000 in
set_option maxRecDepth 100000 in
theorem c_X7_betweenAgain (l : Launch) (D : va_G) (cy : Nat → ClassId) (G : p_GT) (hG : p_ok G) (hst : l.stackTraces = false) (hGE : ∀ (A : Nat → Prop) (U : State) (H : Heap), G A U H → p_Ex A U H) (S : PS) (a0 : Nat) (a1 : Int32) (a2 : Int32) (mc ms : Nat) (post : Int32 → PS → Prop) (postX : String → PS → Prop) (sz : Nat) (hf : f_X7_betweenAgain S a0 a1 a2 mc ms post postX) : p_Xi l D cy G S sz yX7_betweenAgain (Cond.code yX7_betweenAgain cX7_betweenAgain 3 (some .int) :: wG) (rm_X7_betweenAgain mc ms) [.ref a0, .int a1, .int a2] mc ms post postX := by
  refine q_startX hG (Qc := fun A => va_Qi post (p_Post D cy A) A) (XC := fun A => p_XC D cy A postX) mf_X7_betweenAgain (Nat.le_of_ble_eq_true rfl) (own := RX7) rfl ?_
  intro p e s m below meth c A X hr hlk hnm htab ls hl hH
  have hx := X.1.1
  have hb := X.1.2.1
  replace hl : lv_has ls 3 [(0, .ref a0), (1, .int a1), (2, .int a2)] := hl
  have main : ∀ (H : Heap) (locs : List Loc) (ls : Array Slot) (cells slots bc bs : Nat), f_X7_betweenAgain S a0 a1 a2 bc bs post postX → p_H D cy S A s H locs → lv_has ls 3 [(0, .ref a0), (1, .int a1), (2, .int a2)] → cells + bc ≤ mc ∧ slots + bs ≤ ms → W p l e (rm_X7_betweenAgain mc ms) s m [.ref a0, .int a1, .int a2].toArray below meth c H locs cells slots (vx_MQ below (va_Qi post (p_Post D cy A) A) (p_XC D cy A postX) [.ref a0, .int a1, .int a2].toArray s mc ms A) (F0 m 0 ls []) := by
    intro H locs ls cells slots bc bs hf hH hl hB
    have hJ22 : ∀ (S : PS) (bc bs : Nat), f_X7_betweenAgain_J22 post postX S bc bs → ∀ (H : Heap) (locs : List Loc) (ls : Array Slot) (cells slots : Nat), p_H D cy S A s H locs → lv_has ls 3 [] → cells + bc ≤ mc ∧ slots + bs ≤ ms → W p l e (rm_X7_betweenAgain mc ms) s m [.ref a0, .int a1, .int a2].toArray below meth c H locs cells slots (vx_MQ below (va_Qi post (p_Post D cy A) A) (p_XC D cy A postX) [.ref a0, .int a1, .int a2].toArray s mc ms A) (F0 m 22 ls []) := by
      intro S bc bs hf H locs ls cells slots hH hl hB
      exact q_throw X hH hl hB rfl rfl hst (hGE _ _ _ X.2.2.2.2) hf tw_298 tw_52 (text := "there is no such household") (List.mem_of_getElem? (i := 1) rfl) xa_IndexOutOfBoundsException xg_IndexOutOfBoundsException (by decide +kernel) (by decide +kernel) dX7_betweenAgain_22 dX7_betweenAgain_25 dX7_betweenAgain_26 dX7_betweenAgain_28 dX7_betweenAgain_31 htab ⟨Nat.le_of_ble_eq_true rfl, Nat.le_of_ble_eq_true rfl⟩ (Nat.le_of_ble_eq_true rfl) hlk
    refine lv_aload_n hx hb dX7_betweenAgain_0 rfl (lv_at hl 0 rfl) ?_
    refine q_getR (T := TX7) (N := 12) X hH hf iw_X7 rfl (by decide) tw_253 (fun _ h => h) dX7_betweenAgain_1 (fun v1 hf => ?_)
    refine lv_iload_n hx hb dX7_betweenAgain_4 rfl (lv_at hl 1 rfl) ?_
    obtain ⟨hb1, hb2, hf⟩ := hf
    refine q_backI0 X hH (q_runV [.int a1] [] X hH hl (c_X6_has l D cy G X.2.2.2.1 S v1 a1 _ _ hf) mf_X6_has mv_X6_has tw_294 ⟨Nat.le_of_ble_eq_true rfl, Nat.le_of_ble_eq_true rfl⟩ hb1 hb2 (T := TX6) (N := 6) rfl rfl (Nat.le_of_ble_eq_true rfl) dX7_betweenAgain_5 ⟨Nat.le_trans (Nat.le_add_right _ _) hB.1, Nat.le_trans (Nat.le_add_right _ _) hB.2⟩) (fun v3 S2 hf H locs hH => ?_)
    refine lv_if_eq (tgt := 22) hx hb dX7_betweenAgain_8 (by decide) (fun c4 => ?_) (fun c4 => ?_)
    · have hf := (if_pos c4).mp hf
      exact hJ22 S2 bc bs hf H locs ls cells slots hH (lv_sub hl [] rfl) hB
    · have hf := (if_neg c4).mp hf
      refine lv_aload_n hx hb dX7_betweenAgain_11 rfl (lv_at hl 0 rfl) ?_
      refine q_getR (T := TX7) (N := 12) X hH hf iw_X7 rfl (by decide) tw_253 (fun _ h => h) dX7_betweenAgain_12 (fun v5 hf => ?_)
      refine lv_iload_n hx hb dX7_betweenAgain_15 rfl (lv_at hl 2 rfl) ?_
      obtain ⟨hb1, hb2, hf⟩ := hf
      refine q_backI0 X hH (q_runV [.int a2] [] X hH hl (c_X6_has l D cy G X.2.2.2.1 S2 v5 a2 _ _ hf) mf_X6_has mv_X6_has tw_294 ⟨Nat.le_of_ble_eq_true rfl, Nat.le_of_ble_eq_true rfl⟩ hb1 hb2 (T := TX6) (N := 6) rfl rfl (Nat.le_of_ble_eq_true rfl) dX7_betweenAgain_16 ⟨Nat.le_trans (Nat.le_add_right _ _) hB.1, Nat.le_trans (Nat.le_add_right _ _) hB.2⟩) (fun v7 S6 hf H locs hH => ?_)
      refine lv_if_ne (tgt := 32) hx hb dX7_betweenAgain_19 (by decide) (fun c8 => ?_) (fun c8 => ?_)
      · have hf := (if_neg c8).mp hf
        refine lv_iload_n hx hb dX7_betweenAgain_32 rfl (lv_at hl 1 rfl) ?_
        refine lv_iload_n hx hb dX7_betweenAgain_33 rfl (lv_at hl 2 rfl) ?_
        refine lv_icmp_ne (tgt := 47) hx hb dX7_betweenAgain_34 (by decide) (fun c9 => ?_) (fun c9 => ?_)
        · have hf := (if_neg c9).mp hf
          refine lv_aload_n hx hb dX7_betweenAgain_47 rfl (lv_at hl 0 rfl) ?_
          refine q_getR (T := TX7) (N := 12) X hH hf iw_X7 rfl (by decide) tw_259 (fun _ h => h) dX7_betweenAgain_48 (fun v10 hf => ?_)
          refine lv_aload_n hx hb dX7_betweenAgain_51 rfl (lv_at hl 0 rfl) ?_
          refine q_getR (T := TX7) (N := 12) X hH hf iw_X7 rfl (by decide) tw_253 (fun _ h => h) dX7_betweenAgain_52 (fun v11 hf => ?_)
          refine lv_iload_n hx hb dX7_betweenAgain_55 rfl (lv_at hl 1 rfl) ?_
          refine lv_iload_n hx hb dX7_betweenAgain_56 rfl (lv_at hl 2 rfl) ?_
          obtain ⟨hb1, hb2, hf⟩ := hf
          refine q_backI0 X hH (q_runV [.ref v11, .int a1, .int a2] [] X hH hl (c_X1_mostFlow l D cy G X.2.2.2.1 S6 v10 v11 a1 a2 _ _ hf) mf_X1_mostFlow mv_X1_mostFlow tw_558 ⟨Nat.le_of_ble_eq_true rfl, Nat.le_of_ble_eq_true rfl⟩ hb1 hb2 (T := TX1) (N := 3) rfl rfl (Nat.le_of_ble_eq_true rfl) dX7_betweenAgain_57 ⟨Nat.le_trans (Nat.le_add_right _ _) hB.1, Nat.le_trans (Nat.le_add_right _ _) hB.2⟩) (fun v13 S12 hf H locs hH => ?_)
          exact vx_ret (q_retI X hH hr hlk hf (Nat.le_trans (Nat.le_add_right _ _) hB.1) (Nat.le_trans (Nat.le_add_right _ _) hB.2) dX7_betweenAgain_60)
        · have hf := (if_pos c9).mp hf
          exact q_throw X hH hl hB rfl rfl hst (hGE _ _ _ X.2.2.2.2) hf tw_406 tw_48 (text := "both are one household") (List.mem_of_getElem? (i := 11) rfl) xa_IllegalArgumentException xg_IllegalArgumentException (by decide +kernel) (by decide +kernel) dX7_betweenAgain_37 dX7_betweenAgain_40 dX7_betweenAgain_41 dX7_betweenAgain_43 dX7_betweenAgain_46 htab ⟨Nat.le_of_ble_eq_true rfl, Nat.le_of_ble_eq_true rfl⟩ (Nat.le_of_ble_eq_true rfl) hlk
      · have hf := (if_pos c8).mp hf
        exact hJ22 S6 bc bs hf H locs ls cells slots hH (lv_sub hl [] rfl) hB
  exact main s.heap [] ls 0 0 mc ms hf hH hl ⟨by omega, by omega⟩
-- X7_ranked
def f_X7_ranked_J9 (post : Int32 → PS → Prop) (postX : String → PS → Prop) (S : PS) (bc bs : Nat)  : Prop :=
  tX S "java/lang/IllegalArgumentException" bc bs postX
def f_X7_ranked (S : PS) (a0 : Nat) (a1 : Int32) (a2 : Int32) (bc bs : Nat) (post : Int32 → PS → Prop) (postX : String → PS → Prop) : Prop :=
  if a1 < 0 then
    f_X7_ranked_J9 post postX S bc bs
  else
    if a1 ≤ 3 then
      gR S a0 11 0 fun v3 => (
      isO S v3 10 (
      f_X6_has S v3 a2 fun v5 S4 => (
      if v5 = 0 then
        tX S4 "java/util/NoSuchElementException" bc bs postX
      else
        isO S4 a0 11 (
        f_X7_fillKeys S4 a0 a1 fun S7 => (
        isO S7 a0 11 (
        f_X7_householdAtPlace S7 a0 a2 fun v10 S9 => (
        post v10 S9)))))))
    else
      f_X7_ranked_J9 post postX S bc bs
abbrev rm_X7_ranked (mc ms : Nat) : Room := { frames := 6, cells := mc, slots := ms, locals := 128 }
set_option maxHeartbeats 4000000 in
set_option maxRecDepth 100000 in
theorem c_X7_ranked (l : Launch) (D : va_G) (cy : Nat → ClassId) (G : p_GT) (hG : p_ok G) (hst : l.stackTraces = false) (hGE : ∀ (A : Nat → Prop) (U : State) (H : Heap), G A U H → p_Ex A U H) (S : PS) (a0 : Nat) (a1 : Int32) (a2 : Int32) (mc ms : Nat) (post : Int32 → PS → Prop) (postX : String → PS → Prop) (sz : Nat) (hf : f_X7_ranked S a0 a1 a2 mc ms post postX) : p_Xi l D cy G S sz yX7_ranked (Cond.code yX7_ranked cX7_ranked 3 (some .int) :: wG) (rm_X7_ranked mc ms) [.ref a0, .int a1, .int a2] mc ms post postX := by
  refine q_startX hG (Qc := fun A => va_Qi post (p_Post D cy A) A) (XC := fun A => p_XC D cy A postX) mf_X7_ranked (Nat.le_of_ble_eq_true rfl) (own := RX7) rfl ?_
  intro p e s m below meth c A X hr hlk hnm htab ls hl hH
  have hx := X.1.1
  have hb := X.1.2.1
  replace hl : lv_has ls 3 [(0, .ref a0), (1, .int a1), (2, .int a2)] := hl
  have main : ∀ (H : Heap) (locs : List Loc) (ls : Array Slot) (cells slots bc bs : Nat), f_X7_ranked S a0 a1 a2 bc bs post postX → p_H D cy S A s H locs → lv_has ls 3 [(0, .ref a0), (1, .int a1), (2, .int a2)] → cells + bc ≤ mc ∧ slots + bs ≤ ms → W p l e (rm_X7_ranked mc ms) s m [.ref a0, .int a1, .int a2].toArray below meth c H locs cells slots (vx_MQ below (va_Qi post (p_Post D cy A) A) (p_XC D cy A postX) [.ref a0, .int a1, .int a2].toArray s mc ms A) (F0 m 0 ls []) := by
    intro H locs ls cells slots bc bs hf hH hl hB
    have hJ9 : ∀ (S : PS) (bc bs : Nat), f_X7_ranked_J9 post postX S bc bs → ∀ (H : Heap) (locs : List Loc) (ls : Array Slot) (cells slots : Nat), p_H D cy S A s H locs → lv_has ls 3 [] → cells + bc ≤ mc ∧ slots + bs ≤ ms → W p l e (rm_X7_ranked mc ms) s m [.ref a0, .int a1, .int a2].toArray below meth c H locs cells slots (vx_MQ below (va_Qi post (p_Post D cy A) A) (p_XC D cy A postX) [.ref a0, .int a1, .int a2].toArray s mc ms A) (F0 m 9 ls []) := by
      intro S bc bs hf H locs ls cells slots hH hl hB
      exact q_throwW X hH hl hB rfl rfl hst (hGE _ _ _ X.2.2.2.2) hf tw_406 tw_48 (text := "there is no such kind") (List.mem_of_getElem? (i := 15) rfl) xa_IllegalArgumentException xg_IllegalArgumentException (by decide +kernel) (by decide +kernel) dX7_ranked_9 dX7_ranked_12 dX7_ranked_13 dX7_ranked_16 dX7_ranked_19 htab ⟨Nat.le_of_ble_eq_true rfl, Nat.le_of_ble_eq_true rfl⟩ (Nat.le_of_ble_eq_true rfl) hlk
    refine lv_iload_n hx hb dX7_ranked_0 rfl (lv_at hl 1 rfl) ?_
    refine lv_if_lt (tgt := 9) hx hb dX7_ranked_1 (by decide) (fun c1 => ?_) (fun c1 => ?_)
    · have hf := (if_pos c1).mp hf
      exact hJ9 S bc bs hf H locs ls cells slots hH (lv_sub hl [] rfl) hB
    · have hf := (if_neg c1).mp hf
      refine lv_iload_n hx hb dX7_ranked_4 rfl (lv_at hl 1 rfl) ?_
      refine lv_iconst (v := 3) hx hb dX7_ranked_5 (by decide) ?_
      refine lv_icmp_le (tgt := 20) hx hb dX7_ranked_6 (by decide) (fun c2 => ?_) (fun c2 => ?_)
      · have hf := (if_pos c2).mp hf
        refine lv_aload_n hx hb dX7_ranked_20 rfl (lv_at hl 0 rfl) ?_
        refine q_getR (T := TX7) (N := 12) X hH hf iw_X7 rfl (by decide) tw_253 (fun _ h => h) dX7_ranked_21 (fun v3 hf => ?_)
        refine lv_iload_n hx hb dX7_ranked_24 rfl (lv_at hl 2 rfl) ?_
        obtain ⟨hb1, hb2, hf⟩ := hf
        refine q_backI0 X hH (q_runV [.int a2] [] X hH hl (c_X6_has l D cy G X.2.2.2.1 S v3 a2 _ _ hf) mf_X6_has mv_X6_has tw_294 ⟨Nat.le_of_ble_eq_true rfl, Nat.le_of_ble_eq_true rfl⟩ hb1 hb2 (T := TX6) (N := 6) rfl rfl (Nat.le_of_ble_eq_true rfl) dX7_ranked_25 ⟨Nat.le_trans (Nat.le_add_right _ _) hB.1, Nat.le_trans (Nat.le_add_right _ _) hB.2⟩) (fun v5 S4 hf H locs hH => ?_)
        refine lv_if_ne (tgt := 41) hx hb dX7_ranked_28 (by decide) (fun c6 => ?_) (fun c6 => ?_)
        · have hf := (if_neg c6).mp hf
          refine lv_aload_n hx hb dX7_ranked_41 rfl (lv_at hl 0 rfl) ?_
          refine lv_iload_n hx hb dX7_ranked_42 rfl (lv_at hl 1 rfl) ?_
          obtain ⟨hb1, hb2, hf⟩ := hf
          refine q_backV0 X hH (q_runV [.int a1] [] X hH hl (c_X7_fillKeys l D cy G X.2.2.2.1 S4 a0 a1 _ _ hf) mf_X7_fillKeys mv_X7_fillKeys tw_620 ⟨Nat.le_of_ble_eq_true rfl, Nat.le_of_ble_eq_true rfl⟩ hb1 hb2 (T := TX7) (N := 12) rfl rfl (Nat.le_of_ble_eq_true rfl) dX7_ranked_43 ⟨Nat.le_trans (Nat.le_add_right _ _) hB.1, Nat.le_trans (Nat.le_add_right _ _) hB.2⟩) (fun S7 hf H locs hH => ?_)
          refine lv_aload_n hx hb dX7_ranked_46 rfl (lv_at hl 0 rfl) ?_
          refine lv_iload_n hx hb dX7_ranked_47 rfl (lv_at hl 2 rfl) ?_
          obtain ⟨hb1, hb2, hf⟩ := hf
          refine q_backI0 X hH (q_runV [.int a2] [] X hH hl (c_X7_householdAtPlace l D cy G X.2.2.2.1 S7 a0 a2 _ _ hf) mf_X7_householdAtPlace mv_X7_householdAtPlace tw_633 ⟨Nat.le_of_ble_eq_true rfl, Nat.le_of_ble_eq_true rfl⟩ hb1 hb2 (T := TX7) (N := 12) rfl rfl (Nat.le_of_ble_eq_true rfl) dX7_ranked_48 ⟨Nat.le_trans (Nat.le_add_right _ _) hB.1, Nat.le_trans (Nat.le_add_right _ _) hB.2⟩) (fun v10 S9 hf H locs hH => ?_)
          exact vx_ret (q_retI X hH hr hlk hf (Nat.le_trans (Nat.le_add_right _ _) hB.1) (Nat.le_trans (Nat.le_add_right _ _) hB.2) dX7_ranked_51)
        · have hf := (if_pos c6).mp hf
          exact q_throwX (by decide +kernel) (by decide +kernel) (by decide +kernel) (by decide +kernel) X hH hl hB rfl rfl hst (hGE _ _ _ X.2.2.2.2) hf tw_518 tw_49 (text := "there is no such place") (List.mem_of_getElem? (i := 10) rfl) xa_NoSuchElementException xg_NoSuchElementException (by decide +kernel) (by decide +kernel) dX7_ranked_31 dX7_ranked_34 dX7_ranked_35 dX7_ranked_37 dX7_ranked_40 htab ⟨Nat.le_of_ble_eq_true rfl, Nat.le_of_ble_eq_true rfl⟩ (Nat.le_of_ble_eq_true rfl) hlk
      · have hf := (if_neg c2).mp hf
        exact hJ9 S bc bs hf H locs ls cells slots hH (lv_sub hl [] rfl) hB
  exact main s.heap [] ls 0 0 mc ms hf hH hl ⟨by omega, by omega⟩
-- X7_character
def f_X7_character_J15 (post : Int32 → PS → Prop) (postX : String → PS → Prop) (S : PS) (bc bs : Nat)  : Prop :=
  tX S "java/lang/IndexOutOfBoundsException" bc bs postX
def f_X7_character (S : PS) (a0 : Nat) (a1 : Int32) (bc bs : Nat) (post : Int32 → PS → Prop) (postX : String → PS → Prop) : Prop :=
  if a1 < 0 then
    f_X7_character_J15 post postX S bc bs
  else
    gR S a0 11 9 fun v2 => (
    isO S v2 1 (
    f_J4_length_8abf5 S v2 fun v4 S3 => (
    if a1 < v4 then
      gR S3 a0 11 9 fun v6 => (
      isO S3 v6 1 (
      f_J4_charAt_5068e S3 v6 a1 fun v8 S7 => (
      nZ .char v8 (post v8 S7))))
    else
      f_X7_character_J15 post postX S3 bc bs)))
abbrev rm_X7_character (mc ms : Nat) : Room := { frames := 6, cells := mc, slots := ms, locals := 90 }
set_option maxHeartbeats 4000000 in
set_option maxRecDepth 100000 in
theorem c_X7_character (l : Launch) (D : va_G) (cy : Nat → ClassId) (G : p_GT) (hG : p_ok G) (hst : l.stackTraces = false) (hGE : ∀ (A : Nat → Prop) (U : State) (H : Heap), G A U H → p_Ex A U H) (hGF : ∀ (A : Nat → Prop) (U : State) (H : Heap), G A U H → gF A U H) (S : PS) (a0 : Nat) (a1 : Int32) (mc ms : Nat) (post : Int32 → PS → Prop) (postX : String → PS → Prop) (sz : Nat) (hf : f_X7_character S a0 a1 mc ms post postX) : p_Xi l D cy G S sz yX7_character (Cond.code yX7_character cX7_character 2 (some .char) :: wG) (rm_X7_character mc ms) [.ref a0, .int a1] mc ms post postX := by
  refine q_startX hG (Qc := fun A => va_Qi post (p_Post D cy A) A) (XC := fun A => p_XC D cy A postX) mf_X7_character (Nat.le_of_ble_eq_true rfl) (own := RX7) rfl ?_
  intro p e s m below meth c A X hr hlk hnm htab ls hl hH
  have hx := X.1.1
  have hb := X.1.2.1
  replace hl : lv_has ls 2 [(0, .ref a0), (1, .int a1)] := hl
  have main : ∀ (H : Heap) (locs : List Loc) (ls : Array Slot) (cells slots bc bs : Nat), f_X7_character S a0 a1 bc bs post postX → p_H D cy S A s H locs → lv_has ls 2 [(0, .ref a0), (1, .int a1)] → cells + bc ≤ mc ∧ slots + bs ≤ ms → W p l e (rm_X7_character mc ms) s m [.ref a0, .int a1].toArray below meth c H locs cells slots (vx_MQ below (va_Qi post (p_Post D cy A) A) (p_XC D cy A postX) [.ref a0, .int a1].toArray s mc ms A) (F0 m 0 ls []) := by
    intro H locs ls cells slots bc bs hf hH hl hB
    have hJ15 : ∀ (S : PS) (bc bs : Nat), f_X7_character_J15 post postX S bc bs → ∀ (H : Heap) (locs : List Loc) (ls : Array Slot) (cells slots : Nat), p_H D cy S A s H locs → lv_has ls 2 [] → cells + bc ≤ mc ∧ slots + bs ≤ ms → W p l e (rm_X7_character mc ms) s m [.ref a0, .int a1].toArray below meth c H locs cells slots (vx_MQ below (va_Qi post (p_Post D cy A) A) (p_XC D cy A postX) [.ref a0, .int a1].toArray s mc ms A) (F0 m 15 ls []) := by
      intro S bc bs hf H locs ls cells slots hH hl hB
      exact q_throwW X hH hl hB rfl rfl hst (hGE _ _ _ X.2.2.2.2) hf tw_298 tw_52 (text := "there is no such index") (List.mem_of_getElem? (i := 18) rfl) xa_IndexOutOfBoundsException xg_IndexOutOfBoundsException (by decide +kernel) (by decide +kernel) dX7_character_15 dX7_character_18 dX7_character_19 dX7_character_22 dX7_character_25 htab ⟨Nat.le_of_ble_eq_true rfl, Nat.le_of_ble_eq_true rfl⟩ (Nat.le_of_ble_eq_true rfl) hlk
    refine lv_iload_n hx hb dX7_character_0 rfl (lv_at hl 1 rfl) ?_
    refine lv_if_lt (tgt := 15) hx hb dX7_character_1 (by decide) (fun c1 => ?_) (fun c1 => ?_)
    · have hf := (if_pos c1).mp hf
      exact hJ15 S bc bs hf H locs ls cells slots hH (lv_sub hl [] rfl) hB
    · have hf := (if_neg c1).mp hf
      refine lv_iload_n hx hb dX7_character_4 rfl (lv_at hl 1 rfl) ?_
      refine lv_aload_n hx hb dX7_character_5 rfl (lv_at hl 0 rfl) ?_
      refine q_getR (T := TX7) (N := 12) X hH hf iw_X7 rfl (by decide) tw_262 (fun _ h => h) dX7_character_6 (fun v2 hf => ?_)
      obtain ⟨hb1, hb2, hf⟩ := hf
      refine q_backI0 X hH (q_runV [] [.int a1] X hH hl (c_J4_length_8abf5 l D cy G X.2.2.2.1 S v2 _ _ hf) mf_J4_length_8abf5 mv_J4_length_8abf5 tw_727 ⟨Nat.le_of_ble_eq_true rfl, Nat.le_of_ble_eq_true rfl⟩ hb1 hb2 (T := TJ4) (N := 4) rfl rfl (Nat.le_of_ble_eq_true rfl) dX7_character_9 ⟨Nat.le_trans (Nat.le_add_right _ _) hB.1, Nat.le_trans (Nat.le_add_right _ _) hB.2⟩) (fun v4 S3 hf H locs hH => ?_)
      refine lv_icmp_lt (tgt := 26) hx hb dX7_character_12 (by decide) (fun c5 => ?_) (fun c5 => ?_)
      · have hf := (if_pos c5).mp hf
        refine lv_aload_n hx hb dX7_character_26 rfl (lv_at hl 0 rfl) ?_
        refine q_getR (T := TX7) (N := 12) X hH hf iw_X7 rfl (by decide) tw_262 (fun _ h => h) dX7_character_27 (fun v6 hf => ?_)
        refine lv_iload_n hx hb dX7_character_30 rfl (lv_at hl 1 rfl) ?_
        obtain ⟨hb1, hb2, hf⟩ := hf
        refine q_backI0 X hH (q_runV [.int a1] [] X hH hl (c_J4_charAt_5068e l D cy G X.2.2.2.1 hGF S3 v6 a1 _ _ hf) mf_J4_charAt_5068e mv_J4_charAt_5068e tw_1178 ⟨Nat.le_of_ble_eq_true rfl, Nat.le_of_ble_eq_true rfl⟩ hb1 hb2 (T := TJ4) (N := 4) rfl rfl (Nat.le_of_ble_eq_true rfl) dX7_character_31 ⟨Nat.le_trans (Nat.le_add_right _ _) hB.1, Nat.le_trans (Nat.le_add_right _ _) hB.2⟩) (fun v8 S7 hf H locs hH => ?_)
        exact vx_ret (q_retZ X hH hr hlk hf (Nat.le_trans (Nat.le_add_right _ _) hB.1) (Nat.le_trans (Nat.le_add_right _ _) hB.2) dX7_character_34)
      · have hf := (if_neg c5).mp hf
        exact hJ15 S3 bc bs hf H locs ls cells slots hH (lv_sub hl [] rfl) hB
  exact main s.heap [] ls 0 0 mc ms hf hH hl ⟨by omega, by omega⟩
