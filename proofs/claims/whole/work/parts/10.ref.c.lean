-- X8_merges
def f_X8_merges_J111 (post : PS → Prop) (g55 : PS → Nat → Int32 → Int32 → Int32 → Int32 → Int32 → Int32 → Prop) (S : PS) (l0 : Nat) (l2 : Int32) (l3 : Int32) (l4 : Int32) (l5 : Int32) (l6 : Int32) (l7 : Int32) : Prop :=
  g55 S l0 l2 l3 l4 l5 l6 (l7 + 1)
def f_X8_merges_J107 (post : PS → Prop) (g55 : PS → Nat → Int32 → Int32 → Int32 → Int32 → Int32 → Int32 → Prop) (S : PS) (l0 : Nat) (l2 : Int32) (l3 : Int32) (l4 : Int32) (l5 : Int32) (l6 : Int32) (l7 : Int32) (t0 : Int32) (t1 : Int32) (t2 : Nat) : Prop :=
  sI S t2 0 t1 t0 fun S1 => (
  f_X8_merges_J111 post g55 S1 l0 l2 l3 l4 l5 (l6 + 1) l7)
def f_X8_merges_L55 (post : PS → Prop) : Nat → PS → Nat → Int32 → Int32 → Int32 → Int32 → Int32 → Int32 → Prop
  | 0, _, _, _, _, _, _, _, _ => False
  | n + 1, S, l0, l2, l3, l4, l5, l6, l7 =>
  if l2 ≤ l7 then
    post S
  else
    gR S l0 12 12 fun v2 => (
    aI S v2 0 l7 fun v3 => (
    if v3 = ((l3 + l4) - l5) then
      f_X8_merges_J111 post (f_X8_merges_L55 post n) S l0 l2 l3 l4 l5 l6 l7
    else
      gR S l0 12 12 fun v5 => (
      if v3 = l5 then
        f_X8_merges_J107 post (f_X8_merges_L55 post n) S l0 l2 l3 l4 l5 l6 l7 (l3 ||| l4) l6 v5
      else
        f_X8_merges_J107 post (f_X8_merges_L55 post n) S l0 l2 l3 l4 l5 l6 l7 v3 l6 v5)))
def f_X8_merges_J47 (post : PS → Prop) (S : PS) (l0 : Nat) (l2 : Int32) (l3 : Int32) (l4 : Int32) (t0 : Int32) : Prop :=
  f_X8_merges_L55 post 4096 S l0 l2 l3 l4 t0 0 0
def f_X8_merges (S : PS) (a0 : Nat) (a1 : Int32) (a2 : Int32) (post : PS → Prop) : Prop :=
  gR S a0 12 9 fun v1 => (
  aI S v1 0 ((((9 : Int32) * a1) + a2) - 2) fun v2 => (
  gR S a0 12 9 fun v3 => (
  aI S v3 0 ((((9 : Int32) * a1) + a2) - 1) fun v4 => (
  f_X8_lowest S v2 fun v6 S5 => (
  f_X8_lowest S5 v4 fun v8 S7 => (
  if v8 ≤ v6 then
    f_X8_merges_J47 post S7 a0 a2 v2 v4 v4
  else
    f_X8_merges_J47 post S7 a0 a2 v2 v4 v2))))))
abbrev rm_X8_merges : Room := { frames := 2, cells := 0, slots := 0, locals := 42 }
set_option maxHeartbeats 4000000 in
set_option maxRecDepth 100000 in
theorem c_X8_merges (l : Launch) (D : va_G) (cy : Nat → ClassId) (G : p_GT) (hG : p_ok G) (S : PS) (a0 : Nat) (a1 : Int32) (a2 : Int32) (post : PS → Prop) (sz : Nat) (hf : f_X8_merges S a0 a1 a2 post) : p_Mv l D cy G S sz yX8_merges (Cond.code yX8_merges cX8_merges 9 none :: wG) rm_X8_merges [.ref a0, .int a1, .int a2] 0 0 post := by
  refine q_start hG (Qc := fun A => va_Qv post (p_Post D cy A) A) mf_X8_merges (Nat.le_of_ble_eq_true rfl) (own := RX8) rfl ?_
  intro p e s m below meth c A X hr hlk hnm ls hl hH
  have hx := X.1.1
  have hb := X.1.2.1
  replace hl : lv_has ls 9 [(0, .ref a0), (1, .int a1), (2, .int a2)] := hl
  obtain ⟨H, hHe⟩ : ∃ H, H = s.heap := ⟨_, rfl⟩
  obtain ⟨locs, hlo⟩ : ∃ locs : List Loc, locs = [] := ⟨_, rfl⟩
  rw [← hHe, ← hlo] at hH
  show W p l e rm_X8_merges s m [.ref a0, .int a1, .int a2].toArray below meth c s.heap [] 0 0 _ _
  rw [← hHe, ← hlo]
  have hJ47 : ∀ (S : PS) (l0 : Nat) (l2 : Int32) (l3 : Int32) (l4 : Int32) (t0 : Int32), f_X8_merges_J47 post S l0 l2 l3 l4 t0 → ∀ (H : Heap) (locs : List Loc) (ls : Array Slot), p_H D cy S A s H locs → lv_has ls 9 [(0, .ref l0), (2, .int l2), (3, .int l3), (4, .int l4)] → W p l e rm_X8_merges s m [.ref a0, .int a1, .int a2].toArray below meth c H locs 0 0 (MQ below (va_Qv post (p_Post D cy A) A) [.ref a0, .int a1, .int a2].toArray s 0 0 A) (F0 m 47 ls [.int t0]) := by
    intro S l0 l2 l3 l4 t0 hf H locs ls hH hl
    have hL55 : ∀ (n55 : Nat) (S : PS) (l0 : Nat) (l2 : Int32) (l3 : Int32) (l4 : Int32) (l5 : Int32) (l6 : Int32) (l7 : Int32), f_X8_merges_L55 post n55 S l0 l2 l3 l4 l5 l6 l7 → ∀ (H : Heap) (locs : List Loc) (ls : Array Slot), p_H D cy S A s H locs → lv_has ls 9 [(0, .ref l0), (2, .int l2), (3, .int l3), (4, .int l4), (5, .int l5), (6, .int l6), (7, .int l7)] → W p l e rm_X8_merges s m [.ref a0, .int a1, .int a2].toArray below meth c H locs 0 0 (MQ below (va_Qv post (p_Post D cy A) A) [.ref a0, .int a1, .int a2].toArray s 0 0 A) (F0 m 55 ls []) := by
      intro n55
      induction n55 with
      | zero => intro S l0 l2 l3 l4 l5 l6 l7 hf; exact hf.elim
      | succ n55 ih55 =>
        intro S l0 l2 l3 l4 l5 l6 l7 hf H locs ls hH hl
        have hJ111 : ∀ (S : PS) (l0 : Nat) (l2 : Int32) (l3 : Int32) (l4 : Int32) (l5 : Int32) (l6 : Int32) (l7 : Int32), f_X8_merges_J111 post (f_X8_merges_L55 post n55) S l0 l2 l3 l4 l5 l6 l7 → ∀ (H : Heap) (locs : List Loc) (ls : Array Slot), p_H D cy S A s H locs → lv_has ls 9 [(0, .ref l0), (2, .int l2), (3, .int l3), (4, .int l4), (5, .int l5), (6, .int l6), (7, .int l7)] → W p l e rm_X8_merges s m [.ref a0, .int a1, .int a2].toArray below meth c H locs 0 0 (MQ below (va_Qv post (p_Post D cy A) A) [.ref a0, .int a1, .int a2].toArray s 0 0 A) (F0 m 111 ls []) := by
          intro S l0 l2 l3 l4 l5 l6 l7 hf H locs ls hH hl
          refine lv_iinc (v := l7 + 1) (lv' := [(7, .int (l7 + 1)), (0, .ref l0), (2, .int l2), (3, .int l3), (4, .int l4), (5, .int l5), (6, .int l6)]) hx hb dX8_merges_111 hl (k := 6) rfl rfl (by decide) rfl (fun ls hl => ?_)
          refine lv_goto (tgt := 55) hx hb dX8_merges_114 (by decide) ?_
          exact ih55 S l0 l2 l3 l4 l5 l6 (l7 + 1) hf H locs ls hH (lv_sub hl [1, 2, 3, 4, 5, 6, 0] rfl)
        have hJ107 : ∀ (S : PS) (l0 : Nat) (l2 : Int32) (l3 : Int32) (l4 : Int32) (l5 : Int32) (l6 : Int32) (l7 : Int32) (t0 : Int32) (t1 : Int32) (t2 : Nat), f_X8_merges_J107 post (f_X8_merges_L55 post n55) S l0 l2 l3 l4 l5 l6 l7 t0 t1 t2 → ∀ (H : Heap) (locs : List Loc) (ls : Array Slot), p_H D cy S A s H locs → lv_has ls 9 [(0, .ref l0), (2, .int l2), (3, .int l3), (4, .int l4), (5, .int l5), (6, .int l6), (7, .int l7)] → W p l e rm_X8_merges s m [.ref a0, .int a1, .int a2].toArray below meth c H locs 0 0 (MQ below (va_Qv post (p_Post D cy A) A) [.ref a0, .int a1, .int a2].toArray s 0 0 A) (F0 m 107 ls [.int t0, .int t1, .ref t2]) := by
          intro S l0 l2 l3 l4 l5 l6 l7 t0 t1 t2 hf H locs ls hH hl
          refine q_iast X hH hf dX8_merges_107 (fun S1 hf H locs hH => ?_)
          refine lv_iinc (v := l6 + 1) (lv' := [(6, .int (l6 + 1)), (0, .ref l0), (2, .int l2), (3, .int l3), (4, .int l4), (5, .int l5), (7, .int l7)]) hx hb dX8_merges_108 hl (k := 5) rfl rfl (by decide) rfl (fun ls hl => ?_)
          exact hJ111 S1 l0 l2 l3 l4 l5 (l6 + 1) l7 hf H locs ls hH (lv_sub hl [1, 2, 3, 4, 5, 0, 6] rfl)
        refine lv_iload hx hb dX8_merges_55 (lv_at hl 6 rfl) ?_
        refine lv_iload_n hx hb dX8_merges_57 rfl (lv_at hl 1 rfl) ?_
        refine lv_icmp_ge (tgt := 117) hx hb dX8_merges_58 (by decide) (fun c1 => ?_) (fun c1 => ?_)
        · have hf := (if_pos c1).mp hf
          exact q_retV X hH hr hlk hf (Nat.zero_le _) (Nat.zero_le _) dX8_merges_117
        · have hf := (if_neg c1).mp hf
          refine lv_aload_n hx hb dX8_merges_61 rfl (lv_at hl 0 rfl) ?_
          refine q_getR (T := TX8) (N := 25) X hH hf iw_X8 rfl (by decide) tw_1621 (fun _ h => h) dX8_merges_62 (fun v2 hf => ?_)
          refine lv_iload hx hb dX8_merges_65 (lv_at hl 6 rfl) ?_
          refine q_iald X hH hf dX8_merges_67 (fun v3 hf => ?_)
          refine lv_istore (lv' := [(8, .int v3), (0, .ref l0), (2, .int l2), (3, .int l3), (4, .int l4), (5, .int l5), (6, .int l6), (7, .int l7)]) hx hb dX8_merges_68 hl (by decide) rfl (fun ls hl => ?_)
          refine lv_iload hx hb dX8_merges_70 (lv_at hl 0 rfl) ?_
          refine lv_iload_n hx hb dX8_merges_72 rfl (lv_at hl 3 rfl) ?_
          refine lv_iload hx hb dX8_merges_73 (lv_at hl 4 rfl) ?_
          refine lv_iadd hx hb dX8_merges_75 ?_
          refine lv_iload hx hb dX8_merges_76 (lv_at hl 5 rfl) ?_
          refine lv_isub hx hb dX8_merges_78 ?_
          refine lv_icmp_ne (tgt := 85) hx hb dX8_merges_79 (by decide) (fun c4 => ?_) (fun c4 => ?_)
          · have hf := (if_neg c4).mp hf
            refine lv_aload_n hx hb dX8_merges_85 rfl (lv_at hl 1 rfl) ?_
            refine q_getR (T := TX8) (N := 25) X hH hf iw_X8 rfl (by decide) tw_1621 (fun _ h => h) dX8_merges_86 (fun v5 hf => ?_)
            refine lv_iload hx hb dX8_merges_89 (lv_at hl 6 rfl) ?_
            refine lv_iload hx hb dX8_merges_91 (lv_at hl 0 rfl) ?_
            refine lv_iload hx hb dX8_merges_93 (lv_at hl 5 rfl) ?_
            refine lv_icmp_ne (tgt := 105) hx hb dX8_merges_95 (by decide) (fun c6 => ?_) (fun c6 => ?_)
            · have hf := (if_neg c6).mp hf
              refine lv_iload hx hb dX8_merges_105 (lv_at hl 0 rfl) ?_
              exact hJ107 S l0 l2 l3 l4 l5 l6 l7 v3 l6 v5 hf H locs ls hH (lv_sub hl [1, 2, 3, 4, 5, 6, 7] rfl)
            · have hf := (if_pos c6).mp hf
              refine lv_iload_n hx hb dX8_merges_98 rfl (lv_at hl 3 rfl) ?_
              refine lv_iload hx hb dX8_merges_99 (lv_at hl 4 rfl) ?_
              refine lv_ior hx hb dX8_merges_101 ?_
              refine lv_goto (tgt := 107) hx hb dX8_merges_102 (by decide) ?_
              exact hJ107 S l0 l2 l3 l4 l5 l6 l7 (l3 ||| l4) l6 v5 hf H locs ls hH (lv_sub hl [1, 2, 3, 4, 5, 6, 7] rfl)
          · have hf := (if_pos c4).mp hf
            refine lv_goto (tgt := 111) hx hb dX8_merges_82 (by decide) ?_
            exact hJ111 S l0 l2 l3 l4 l5 l6 l7 hf H locs ls hH (lv_sub hl [1, 2, 3, 4, 5, 6, 7] rfl)
    refine lv_istore (lv' := [(5, .int t0), (0, .ref l0), (2, .int l2), (3, .int l3), (4, .int l4)]) hx hb dX8_merges_47 hl (by decide) rfl (fun ls hl => ?_)
    refine lv_iconst (v := 0) hx hb dX8_merges_49 (by decide) ?_
    refine lv_istore (lv' := [(6, .int 0), (5, .int t0), (0, .ref l0), (2, .int l2), (3, .int l3), (4, .int l4)]) hx hb dX8_merges_50 hl (by decide) rfl (fun ls hl => ?_)
    refine lv_iconst (v := 0) hx hb dX8_merges_52 (by decide) ?_
    refine lv_istore (lv' := [(7, .int 0), (6, .int 0), (5, .int t0), (0, .ref l0), (2, .int l2), (3, .int l3), (4, .int l4)]) hx hb dX8_merges_53 hl (by decide) rfl (fun ls hl => ?_)
    exact hL55 4096 S l0 l2 l3 l4 t0 0 0 hf H locs ls hH (lv_sub hl [3, 4, 5, 6, 2, 1, 0] rfl)
  refine lv_aload_n hx hb dX8_merges_0 rfl (lv_at hl 0 rfl) ?_
  refine q_getR (T := TX8) (N := 25) X hH hf iw_X8 rfl (by decide) tw_1618 (fun _ h => h) dX8_merges_1 (fun v1 hf => ?_)
  refine lv_bipush (v := 9) hx hb dX8_merges_4 (by decide) ?_
  refine lv_iload_n hx hb dX8_merges_6 rfl (lv_at hl 1 rfl) ?_
  refine lv_imul hx hb dX8_merges_7 ?_
  refine lv_iload_n hx hb dX8_merges_8 rfl (lv_at hl 2 rfl) ?_
  refine lv_iadd hx hb dX8_merges_9 ?_
  refine lv_iconst (v := 2) hx hb dX8_merges_10 (by decide) ?_
  refine lv_isub hx hb dX8_merges_11 ?_
  refine q_iald X hH hf dX8_merges_12 (fun v2 hf => ?_)
  refine lv_istore_n (lv' := [(3, .int v2), (0, .ref a0), (1, .int a1), (2, .int a2)]) hx hb dX8_merges_13 rfl hl (by decide) rfl (fun ls hl => ?_)
  refine lv_aload_n hx hb dX8_merges_14 rfl (lv_at hl 1 rfl) ?_
  refine q_getR (T := TX8) (N := 25) X hH hf iw_X8 rfl (by decide) tw_1618 (fun _ h => h) dX8_merges_15 (fun v3 hf => ?_)
  refine lv_bipush (v := 9) hx hb dX8_merges_18 (by decide) ?_
  refine lv_iload_n hx hb dX8_merges_20 rfl (lv_at hl 2 rfl) ?_
  refine lv_imul hx hb dX8_merges_21 ?_
  refine lv_iload_n hx hb dX8_merges_22 rfl (lv_at hl 3 rfl) ?_
  refine lv_iadd hx hb dX8_merges_23 ?_
  refine lv_iconst (v := 1) hx hb dX8_merges_24 (by decide) ?_
  refine lv_isub hx hb dX8_merges_25 ?_
  refine q_iald X hH hf dX8_merges_26 (fun v4 hf => ?_)
  refine lv_istore (lv' := [(4, .int v4), (3, .int v2), (0, .ref a0), (1, .int a1), (2, .int a2)]) hx hb dX8_merges_27 hl (by decide) rfl (fun ls hl => ?_)
  refine lv_iload_n hx hb dX8_merges_29 rfl (lv_at hl 1 rfl) ?_
  refine q_backI0 X hH (q_runS [.int v2] [] X hH hl (c_X8_lowest l D cy G X.2.2.2.1 S v2 _ _ hf) mf_X8_lowest tw_1834 tw_1833 ⟨Nat.le_of_ble_eq_true rfl, Nat.le_of_ble_eq_true rfl⟩ rfl (Nat.le_of_ble_eq_true rfl) dX8_merges_30 ⟨Nat.le_of_ble_eq_true rfl, Nat.le_of_ble_eq_true rfl⟩) (fun v6 S5 hf H locs hH => ?_)
  refine lv_iload hx hb dX8_merges_33 (lv_at hl 0 rfl) ?_
  refine q_backI0 X hH (q_runS [.int v4] [.int v6] X hH hl (c_X8_lowest l D cy G X.2.2.2.1 S5 v4 _ _ hf) mf_X8_lowest tw_1834 tw_1833 ⟨Nat.le_of_ble_eq_true rfl, Nat.le_of_ble_eq_true rfl⟩ rfl (Nat.le_of_ble_eq_true rfl) dX8_merges_35 ⟨Nat.le_of_ble_eq_true rfl, Nat.le_of_ble_eq_true rfl⟩) (fun v8 S7 hf H locs hH => ?_)
  refine lv_icmp_ge (tgt := 45) hx hb dX8_merges_38 (by decide) (fun c9 => ?_) (fun c9 => ?_)
  · have hf := (if_pos c9).mp hf
    refine lv_iload hx hb dX8_merges_45 (lv_at hl 0 rfl) ?_
    exact hJ47 S7 a0 a2 v2 v4 v4 hf H locs ls hH (lv_sub hl [2, 4, 1, 0] rfl)
  · have hf := (if_neg c9).mp hf
    refine lv_iload_n hx hb dX8_merges_41 rfl (lv_at hl 1 rfl) ?_
    refine lv_goto (tgt := 47) hx hb dX8_merges_42 (by decide) ?_
    exact hJ47 S7 a0 a2 v2 v4 v2 hf H locs ls hH (lv_sub hl [2, 4, 1, 0] rfl)
-- X8_laysPhases
def f_X8_laysPhases_J85 (post : PS → Prop) (g42 : PS → Nat → Int32 → Int32 → Prop) (S : PS) (l0 : Nat) (l1 : Int32) (l2 : Int32) : Prop :=
  isO S l0 12 (
  f_X8_merges S l0 l2 (l1 - l2) fun S1 => (
  g42 S1 l0 l1 (l2 + 1)))
def f_X8_laysPhases_L42 (post : PS → Prop) : Nat → PS → Nat → Int32 → Int32 → Prop
  | 0, _, _, _, _ => False
  | n + 1, S, l0, l1, l2 =>
  if (l1 - 1) ≤ l2 then
    post S
  else
    isO S l0 12 (
    f_X8_joins S l0 l2 (l1 - l2) fun S2 => (
    gR S2 l0 12 11 fun v4 => (
    aI S2 v4 0 l2 fun v5 => (
    gI S2 l0 12 14 fun v6 => (
    if v6 ≤ v5 then
      f_X8_laysPhases_J85 post (f_X8_laysPhases_L42 post n) S2 l0 l1 l2
    else
      gR S2 l0 12 11 fun v8 => (
      aI S2 v8 0 l2 fun v9 => (
      pV S2 l0 12 14 (.int v9) fun S10 => (
      pV S10 l0 12 13 (.int l2) fun S11 => (
      f_X8_laysPhases_J85 post (f_X8_laysPhases_L42 post n) S11 l0 l1 l2)))))))))
def f_X8_laysPhases_J29 (post : PS → Prop) (S : PS) (l0 : Nat) (l1 : Int32) : Prop :=
  pV S l0 12 13 (.int 0) fun S1 => (
  pV S1 l0 12 14 (.int 100000000) fun S2 => (
  f_X8_laysPhases_L42 post 4096 S2 l0 l1 0))
def f_X8_laysPhases_L9 (post : PS → Prop) : Nat → PS → Nat → Int32 → Int32 → Prop
  | 0, _, _, _, _ => False
  | n + 1, S, l0, l1, l2 =>
  if l1 ≤ l2 then
    f_X8_laysPhases_J29 post S l0 l1
  else
    gR S l0 12 12 fun v2 => (
    sI S v2 0 l2 ((1 : Int32) <<< (l2 &&& 31)) fun S3 => (
    (f_X8_laysPhases_L9 post n) S3 l0 l1 (l2 + 1)))
def f_X8_laysPhases (S : PS) (a0 : Nat) (post : PS → Prop) : Prop :=
  gR S a0 12 1 fun v1 => (
  aI S v1 0 0 fun v2 => (
  f_X8_laysPhases_L9 post 4096 S a0 v2 0))
abbrev rm_X8_laysPhases : Room := { frames := 3, cells := 0, slots := 0, locals := 75 }
set_option maxHeartbeats 4000000 in
set_option maxRecDepth 100000 in
theorem c_X8_laysPhases (l : Launch) (D : va_G) (cy : Nat → ClassId) (G : p_GT) (hG : p_ok G) (S : PS) (a0 : Nat) (post : PS → Prop) (sz : Nat) (hf : f_X8_laysPhases S a0 post) : p_Mv l D cy G S sz yX8_laysPhases (Cond.code yX8_laysPhases cX8_laysPhases 3 none :: wG) rm_X8_laysPhases [.ref a0] 0 0 post := by
  refine q_start hG (Qc := fun A => va_Qv post (p_Post D cy A) A) mf_X8_laysPhases (Nat.le_of_ble_eq_true rfl) (own := RX8) rfl ?_
  intro p e s m below meth c A X hr hlk hnm ls hl hH
  have hx := X.1.1
  have hb := X.1.2.1
  replace hl : lv_has ls 3 [(0, .ref a0)] := hl
  obtain ⟨H, hHe⟩ : ∃ H, H = s.heap := ⟨_, rfl⟩
  obtain ⟨locs, hlo⟩ : ∃ locs : List Loc, locs = [] := ⟨_, rfl⟩
  rw [← hHe, ← hlo] at hH
  show W p l e rm_X8_laysPhases s m [.ref a0].toArray below meth c s.heap [] 0 0 _ _
  rw [← hHe, ← hlo]
  have hL9 : ∀ (n9 : Nat) (S : PS) (l0 : Nat) (l1 : Int32) (l2 : Int32), f_X8_laysPhases_L9 post n9 S l0 l1 l2 → ∀ (H : Heap) (locs : List Loc) (ls : Array Slot), p_H D cy S A s H locs → lv_has ls 3 [(0, .ref l0), (1, .int l1), (2, .int l2)] → W p l e rm_X8_laysPhases s m [.ref a0].toArray below meth c H locs 0 0 (MQ below (va_Qv post (p_Post D cy A) A) [.ref a0].toArray s 0 0 A) (F0 m 9 ls []) := by
    intro n9
    induction n9 with
    | zero => intro S l0 l1 l2 hf; exact hf.elim
    | succ n9 ih9 =>
      intro S l0 l1 l2 hf H locs ls hH hl
      have hJ29 : ∀ (S : PS) (l0 : Nat) (l1 : Int32), f_X8_laysPhases_J29 post S l0 l1 → ∀ (H : Heap) (locs : List Loc) (ls : Array Slot), p_H D cy S A s H locs → lv_has ls 3 [(0, .ref l0), (1, .int l1)] → W p l e rm_X8_laysPhases s m [.ref a0].toArray below meth c H locs 0 0 (MQ below (va_Qv post (p_Post D cy A) A) [.ref a0].toArray s 0 0 A) (F0 m 29 ls []) := by
        intro S l0 l1 hf H locs ls hH hl
        have hL42 : ∀ (n42 : Nat) (S : PS) (l0 : Nat) (l1 : Int32) (l2 : Int32), f_X8_laysPhases_L42 post n42 S l0 l1 l2 → ∀ (H : Heap) (locs : List Loc) (ls : Array Slot), p_H D cy S A s H locs → lv_has ls 3 [(0, .ref l0), (1, .int l1), (2, .int l2)] → W p l e rm_X8_laysPhases s m [.ref a0].toArray below meth c H locs 0 0 (MQ below (va_Qv post (p_Post D cy A) A) [.ref a0].toArray s 0 0 A) (F0 m 42 ls []) := by
          intro n42
          induction n42 with
          | zero => intro S l0 l1 l2 hf; exact hf.elim
          | succ n42 ih42 =>
            intro S l0 l1 l2 hf H locs ls hH hl
            have hJ85 : ∀ (S : PS) (l0 : Nat) (l1 : Int32) (l2 : Int32), f_X8_laysPhases_J85 post (f_X8_laysPhases_L42 post n42) S l0 l1 l2 → ∀ (H : Heap) (locs : List Loc) (ls : Array Slot), p_H D cy S A s H locs → lv_has ls 3 [(0, .ref l0), (1, .int l1), (2, .int l2)] → W p l e rm_X8_laysPhases s m [.ref a0].toArray below meth c H locs 0 0 (MQ below (va_Qv post (p_Post D cy A) A) [.ref a0].toArray s 0 0 A) (F0 m 85 ls []) := by
              intro S l0 l1 l2 hf H locs ls hH hl
              refine lv_aload_n hx hb dX8_laysPhases_85 rfl (lv_at hl 0 rfl) ?_
              refine lv_iload_n hx hb dX8_laysPhases_86 rfl (lv_at hl 2 rfl) ?_
              refine lv_iload_n hx hb dX8_laysPhases_87 rfl (lv_at hl 1 rfl) ?_
              refine lv_iload_n hx hb dX8_laysPhases_88 rfl (lv_at hl 2 rfl) ?_
              refine lv_isub hx hb dX8_laysPhases_89 ?_
              obtain ⟨hb1, hb2, hf⟩ := hf
              refine q_backV0 X hH (q_runV [.int l2, .int (l1 - l2)] [] X hH hl (c_X8_merges l D cy G X.2.2.2.1 S l0 l2 (l1 - l2) _ _ hf) mf_X8_merges mv_X8_merges tw_1829 ⟨Nat.le_of_ble_eq_true rfl, Nat.le_of_ble_eq_true rfl⟩ hb1 hb2 (T := TX8) (N := 25) rfl rfl (Nat.le_of_ble_eq_true rfl) dX8_laysPhases_90 ⟨Nat.le_of_ble_eq_true rfl, Nat.le_of_ble_eq_true rfl⟩) (fun S1 hf H locs hH => ?_)
              refine lv_iinc (v := l2 + 1) (lv' := [(2, .int (l2 + 1)), (0, .ref l0), (1, .int l1)]) hx hb dX8_laysPhases_93 hl (k := 2) rfl rfl (by decide) rfl (fun ls hl => ?_)
              refine lv_goto (tgt := 42) hx hb dX8_laysPhases_96 (by decide) ?_
              exact ih42 S1 l0 l1 (l2 + 1) hf H locs ls hH (lv_sub hl [1, 2, 0] rfl)
            refine lv_iload_n hx hb dX8_laysPhases_42 rfl (lv_at hl 2 rfl) ?_
            refine lv_iload_n hx hb dX8_laysPhases_43 rfl (lv_at hl 1 rfl) ?_
            refine lv_iconst (v := 1) hx hb dX8_laysPhases_44 (by decide) ?_
            refine lv_isub hx hb dX8_laysPhases_45 ?_
            refine lv_icmp_ge (tgt := 99) hx hb dX8_laysPhases_46 (by decide) (fun c1 => ?_) (fun c1 => ?_)
            · have hf := (if_pos c1).mp hf
              exact q_retV X hH hr hlk hf (Nat.zero_le _) (Nat.zero_le _) dX8_laysPhases_99
            · have hf := (if_neg c1).mp hf
              refine lv_aload_n hx hb dX8_laysPhases_49 rfl (lv_at hl 0 rfl) ?_
              refine lv_iload_n hx hb dX8_laysPhases_50 rfl (lv_at hl 2 rfl) ?_
              refine lv_iload_n hx hb dX8_laysPhases_51 rfl (lv_at hl 1 rfl) ?_
              refine lv_iload_n hx hb dX8_laysPhases_52 rfl (lv_at hl 2 rfl) ?_
              refine lv_isub hx hb dX8_laysPhases_53 ?_
              obtain ⟨hb1, hb2, hf⟩ := hf
              refine q_backV0 X hH (q_runV [.int l2, .int (l1 - l2)] [] X hH hl (c_X8_joins l D cy G X.2.2.2.1 S l0 l2 (l1 - l2) _ _ hf) mf_X8_joins mv_X8_joins tw_1825 ⟨Nat.le_of_ble_eq_true rfl, Nat.le_of_ble_eq_true rfl⟩ hb1 hb2 (T := TX8) (N := 25) rfl rfl (Nat.le_of_ble_eq_true rfl) dX8_laysPhases_54 ⟨Nat.le_of_ble_eq_true rfl, Nat.le_of_ble_eq_true rfl⟩) (fun S2 hf H locs hH => ?_)
              refine lv_aload_n hx hb dX8_laysPhases_57 rfl (lv_at hl 0 rfl) ?_
              refine q_getR (T := TX8) (N := 25) X hH hf iw_X8 rfl (by decide) tw_1620 (fun _ h => h) dX8_laysPhases_58 (fun v4 hf => ?_)
              refine lv_iload_n hx hb dX8_laysPhases_61 rfl (lv_at hl 2 rfl) ?_
              refine q_iald X hH hf dX8_laysPhases_62 (fun v5 hf => ?_)
              refine lv_aload_n hx hb dX8_laysPhases_63 rfl (lv_at hl 0 rfl) ?_
              refine q_getI (T := TX8) (N := 25) X hH hf iw_X8 rfl (by decide) tw_1623 (fun _ h => h) dX8_laysPhases_64 (fun v6 hf => ?_)
              refine lv_icmp_ge (tgt := 85) hx hb dX8_laysPhases_67 (by decide) (fun c7 => ?_) (fun c7 => ?_)
              · have hf := (if_pos c7).mp hf
                exact hJ85 S2 l0 l1 l2 hf H locs ls hH hl
              · have hf := (if_neg c7).mp hf
                refine lv_aload_n hx hb dX8_laysPhases_70 rfl (lv_at hl 0 rfl) ?_
                refine lv_aload_n hx hb dX8_laysPhases_71 rfl (lv_at hl 0 rfl) ?_
                refine q_getR (T := TX8) (N := 25) X hH hf iw_X8 rfl (by decide) tw_1620 (fun _ h => h) dX8_laysPhases_72 (fun v8 hf => ?_)
                refine lv_iload_n hx hb dX8_laysPhases_75 rfl (lv_at hl 2 rfl) ?_
                refine q_iald X hH hf dX8_laysPhases_76 (fun v9 hf => ?_)
                refine q_putV (T := TX8) (N := 25) (ty0 := tyX8) (ty := tyX8 14) X hH hf iw_X8 tyX8_ok nmX8 rfl (by decide) tw_1623 (fun _ h => h) rfl (tyX8_ok 14 (by decide)) rfl rfl dX8_laysPhases_77 (fun S10 hf H locs hH => ?_)
                refine lv_aload_n hx hb dX8_laysPhases_80 rfl (lv_at hl 0 rfl) ?_
                refine lv_iload_n hx hb dX8_laysPhases_81 rfl (lv_at hl 2 rfl) ?_
                refine q_putV (T := TX8) (N := 25) (ty0 := tyX8) (ty := tyX8 13) X hH hf iw_X8 tyX8_ok nmX8 rfl (by decide) tw_1622 (fun _ h => h) rfl (tyX8_ok 13 (by decide)) rfl rfl dX8_laysPhases_82 (fun S11 hf H locs hH => ?_)
                exact hJ85 S11 l0 l1 l2 hf H locs ls hH hl
        refine lv_aload_n hx hb dX8_laysPhases_29 rfl (lv_at hl 0 rfl) ?_
        refine lv_iconst (v := 0) hx hb dX8_laysPhases_30 (by decide) ?_
        refine q_putV (T := TX8) (N := 25) (ty0 := tyX8) (ty := tyX8 13) X hH hf iw_X8 tyX8_ok nmX8 rfl (by decide) tw_1622 (fun _ h => h) rfl (tyX8_ok 13 (by decide)) rfl rfl dX8_laysPhases_31 (fun S1 hf H locs hH => ?_)
        refine lv_aload_n hx hb dX8_laysPhases_34 rfl (lv_at hl 0 rfl) ?_
        refine lv_ldc (v := 100000000) hx hb X.1.2.2.2.1 (X.1.2.2.2.2 _ tw_1824) dX8_laysPhases_35 ?_
        refine q_putV (T := TX8) (N := 25) (ty0 := tyX8) (ty := tyX8 14) X hH hf iw_X8 tyX8_ok nmX8 rfl (by decide) tw_1623 (fun _ h => h) rfl (tyX8_ok 14 (by decide)) rfl rfl dX8_laysPhases_37 (fun S2 hf H locs hH => ?_)
        refine lv_iconst (v := 0) hx hb dX8_laysPhases_40 (by decide) ?_
        refine lv_istore_n (lv' := [(2, .int 0), (0, .ref l0), (1, .int l1)]) hx hb dX8_laysPhases_41 rfl hl (by decide) rfl (fun ls hl => ?_)
        exact hL42 4096 S2 l0 l1 0 hf H locs ls hH (lv_sub hl [1, 2, 0] rfl)
      refine lv_iload_n hx hb dX8_laysPhases_9 rfl (lv_at hl 2 rfl) ?_
      refine lv_iload_n hx hb dX8_laysPhases_10 rfl (lv_at hl 1 rfl) ?_
      refine lv_icmp_ge (tgt := 29) hx hb dX8_laysPhases_11 (by decide) (fun c1 => ?_) (fun c1 => ?_)
      · have hf := (if_pos c1).mp hf
        exact hJ29 S l0 l1 hf H locs ls hH (lv_sub hl [0, 1] rfl)
      · have hf := (if_neg c1).mp hf
        refine lv_aload_n hx hb dX8_laysPhases_14 rfl (lv_at hl 0 rfl) ?_
        refine q_getR (T := TX8) (N := 25) X hH hf iw_X8 rfl (by decide) tw_1621 (fun _ h => h) dX8_laysPhases_15 (fun v2 hf => ?_)
        refine lv_iload_n hx hb dX8_laysPhases_18 rfl (lv_at hl 2 rfl) ?_
        refine lv_iconst (v := 1) hx hb dX8_laysPhases_19 (by decide) ?_
        refine lv_iload_n hx hb dX8_laysPhases_20 rfl (lv_at hl 2 rfl) ?_
        refine lv_ishl hx hb dX8_laysPhases_21 ?_
        refine q_iast X hH hf dX8_laysPhases_22 (fun S3 hf H locs hH => ?_)
        refine lv_iinc (v := l2 + 1) (lv' := [(2, .int (l2 + 1)), (0, .ref l0), (1, .int l1)]) hx hb dX8_laysPhases_23 hl (k := 2) rfl rfl (by decide) rfl (fun ls hl => ?_)
        refine lv_goto (tgt := 9) hx hb dX8_laysPhases_26 (by decide) ?_
        exact ih9 S3 l0 l1 (l2 + 1) hf H locs ls hH (lv_sub hl [1, 2, 0] rfl)
  refine lv_aload_n hx hb dX8_laysPhases_0 rfl (lv_at hl 0 rfl) ?_
  refine q_getR (T := TX8) (N := 25) X hH hf iw_X8 rfl (by decide) tw_1610 (fun _ h => h) dX8_laysPhases_1 (fun v1 hf => ?_)
  refine lv_iconst (v := 0) hx hb dX8_laysPhases_4 (by decide) ?_
  refine q_iald X hH hf dX8_laysPhases_5 (fun v2 hf => ?_)
  refine lv_istore_n (lv' := [(1, .int v2), (0, .ref a0)]) hx hb dX8_laysPhases_6 rfl hl (by decide) rfl (fun ls hl => ?_)
  refine lv_iconst (v := 0) hx hb dX8_laysPhases_7 (by decide) ?_
  refine lv_istore_n (lv' := [(2, .int 0), (1, .int v2), (0, .ref a0)]) hx hb dX8_laysPhases_8 rfl hl (by decide) rfl (fun ls hl => ?_)
  exact hL9 4096 S a0 v2 0 hf H locs ls hH (lv_sub hl [2, 1, 0] rfl)
-- X8_leastNow
def f_X8_leastNow (S : PS) (a0 : Nat) (post : Int32 → PS → Prop) : Prop :=
  isO S a0 12 (
  f_X8_laysPhases S a0 fun S1 => (
  gI S1 a0 12 14 fun v3 => (
  post v3 S1)))
abbrev rm_X8_leastNow : Room := { frames := 4, cells := 0, slots := 0, locals := 97 }
set_option maxHeartbeats 4000000 in
set_option maxRecDepth 100000 in
theorem c_X8_leastNow (l : Launch) (D : va_G) (cy : Nat → ClassId) (G : p_GT) (hG : p_ok G) (S : PS) (a0 : Nat) (post : Int32 → PS → Prop) (sz : Nat) (hf : f_X8_leastNow S a0 post) : p_Mi l D cy G S sz yX8_leastNow (Cond.code yX8_leastNow cX8_leastNow 1 (some .int) :: wG) rm_X8_leastNow [.ref a0] 0 0 post := by
  refine q_start hG (Qc := fun A => va_Qi post (p_Post D cy A) A) mf_X8_leastNow (Nat.le_of_ble_eq_true rfl) (own := RX8) rfl ?_
  intro p e s m below meth c A X hr hlk hnm ls hl hH
  have hx := X.1.1
  have hb := X.1.2.1
  replace hl : lv_has ls 1 [(0, .ref a0)] := hl
  obtain ⟨H, hHe⟩ : ∃ H, H = s.heap := ⟨_, rfl⟩
  obtain ⟨locs, hlo⟩ : ∃ locs : List Loc, locs = [] := ⟨_, rfl⟩
  rw [← hHe, ← hlo] at hH
  show W p l e rm_X8_leastNow s m [.ref a0].toArray below meth c s.heap [] 0 0 _ _
  rw [← hHe, ← hlo]
  refine lv_aload_n hx hb dX8_leastNow_0 rfl (lv_at hl 0 rfl) ?_
  obtain ⟨hb1, hb2, hf⟩ := hf
  refine q_backV0 X hH (q_runV [] [] X hH hl (c_X8_laysPhases l D cy G X.2.2.2.1 S a0 _ _ hf) mf_X8_laysPhases mv_X8_laysPhases tw_1820 ⟨Nat.le_of_ble_eq_true rfl, Nat.le_of_ble_eq_true rfl⟩ hb1 hb2 (T := TX8) (N := 25) rfl rfl (Nat.le_of_ble_eq_true rfl) dX8_leastNow_1 ⟨Nat.le_of_ble_eq_true rfl, Nat.le_of_ble_eq_true rfl⟩) (fun S1 hf H locs hH => ?_)
  refine lv_aload_n hx hb dX8_leastNow_4 rfl (lv_at hl 0 rfl) ?_
  refine q_getI (T := TX8) (N := 25) X hH hf iw_X8 rfl (by decide) tw_1623 (fun _ h => h) dX8_leastNow_5 (fun v3 hf => ?_)
  exact q_retI X hH hr hlk hf (Nat.zero_le _) (Nat.zero_le _) dX8_leastNow_8
-- X8_isPhase
def f_X8_isPhase (S : PS) (a0 : Nat) (a1 : Int32) (post : Int32 → PS → Prop) : Prop :=
  gR S a0 12 1 fun v1 => (
  aI S v1 0 0 fun v2 => (
  f_X8_in S a1 0 (v2 - 2) fun v4 S3 => (
  nZ .boolean v4 (post v4 S3))))
abbrev rm_X8_isPhase : Room := { frames := 1, cells := 0, slots := 0, locals := 22 }
set_option maxHeartbeats 4000000 in
set_option maxRecDepth 100000 in
theorem c_X8_isPhase (l : Launch) (D : va_G) (cy : Nat → ClassId) (G : p_GT) (hG : p_ok G) (S : PS) (a0 : Nat) (a1 : Int32) (post : Int32 → PS → Prop) (sz : Nat) (hf : f_X8_isPhase S a0 a1 post) : p_Mi l D cy G S sz yX8_isPhase (Cond.code yX8_isPhase cX8_isPhase 2 (some .boolean) :: wG) rm_X8_isPhase [.ref a0, .int a1] 0 0 post := by
  refine q_start hG (Qc := fun A => va_Qi post (p_Post D cy A) A) mf_X8_isPhase (Nat.le_of_ble_eq_true rfl) (own := RX8) rfl ?_
  intro p e s m below meth c A X hr hlk hnm ls hl hH
  have hx := X.1.1
  have hb := X.1.2.1
  replace hl : lv_has ls 2 [(0, .ref a0), (1, .int a1)] := hl
  obtain ⟨H, hHe⟩ : ∃ H, H = s.heap := ⟨_, rfl⟩
  obtain ⟨locs, hlo⟩ : ∃ locs : List Loc, locs = [] := ⟨_, rfl⟩
  rw [← hHe, ← hlo] at hH
  show W p l e rm_X8_isPhase s m [.ref a0, .int a1].toArray below meth c s.heap [] 0 0 _ _
  rw [← hHe, ← hlo]
  refine lv_iload_n hx hb dX8_isPhase_0 rfl (lv_at hl 1 rfl) ?_
  refine lv_iconst (v := 0) hx hb dX8_isPhase_1 (by decide) ?_
  refine lv_aload_n hx hb dX8_isPhase_2 rfl (lv_at hl 0 rfl) ?_
  refine q_getR (T := TX8) (N := 25) X hH hf iw_X8 rfl (by decide) tw_1610 (fun _ h => h) dX8_isPhase_3 (fun v1 hf => ?_)
  refine lv_iconst (v := 0) hx hb dX8_isPhase_6 (by decide) ?_
  refine q_iald X hH hf dX8_isPhase_7 (fun v2 hf => ?_)
  refine lv_iconst (v := 2) hx hb dX8_isPhase_8 (by decide) ?_
  refine lv_isub hx hb dX8_isPhase_9 ?_
  refine q_backI0 X hH (q_runS [.int a1, .int 0, .int (v2 - 2)] [] X hH hl (c_X8_in l D cy G X.2.2.2.1 S a1 0 (v2 - 2) _ _ hf) mf_X8_in tw_1695 tw_1694 ⟨Nat.le_of_ble_eq_true rfl, Nat.le_of_ble_eq_true rfl⟩ rfl (Nat.le_of_ble_eq_true rfl) dX8_isPhase_10 ⟨Nat.le_of_ble_eq_true rfl, Nat.le_of_ble_eq_true rfl⟩) (fun v4 S3 hf H locs hH => ?_)
  exact q_retZ X hH hr hlk hf (Nat.zero_le _) (Nat.zero_le _) dX8_isPhase_13
-- X8_phases
def f_X8_phases (S : PS) (a0 : Nat) (post : Int32 → PS → Prop) : Prop :=
  pV S a0 12 0 (.int 0) fun S1 => (
  gR S1 a0 12 1 fun v2 => (
  aI S1 v2 0 0 fun v3 => (
  if v3 ≤ 1 then
    post 0 S1
  else
    gR S1 a0 12 1 fun v5 => (
    aI S1 v5 0 0 fun v6 => (
    post (v6 - 1) S1)))))
abbrev rm_X8_phases : Room := { frames := 0, cells := 0, slots := 0, locals := 0 }
set_option maxHeartbeats 4000000 in
set_option maxRecDepth 100000 in
theorem c_X8_phases (l : Launch) (D : va_G) (cy : Nat → ClassId) (G : p_GT) (hG : p_ok G) (S : PS) (a0 : Nat) (post : Int32 → PS → Prop) (sz : Nat) (hf : f_X8_phases S a0 post) : p_Mi l D cy G S sz yX8_phases (Cond.code yX8_phases cX8_phases 1 (some .int) :: wG) rm_X8_phases [.ref a0] 0 0 post := by
  refine q_start hG (Qc := fun A => va_Qi post (p_Post D cy A) A) mf_X8_phases (Nat.le_of_ble_eq_true rfl) (own := RX8) rfl ?_
  intro p e s m below meth c A X hr hlk hnm ls hl hH
  have hx := X.1.1
  have hb := X.1.2.1
  replace hl : lv_has ls 1 [(0, .ref a0)] := hl
  obtain ⟨H, hHe⟩ : ∃ H, H = s.heap := ⟨_, rfl⟩
  obtain ⟨locs, hlo⟩ : ∃ locs : List Loc, locs = [] := ⟨_, rfl⟩
  rw [← hHe, ← hlo] at hH
  show W p l e rm_X8_phases s m [.ref a0].toArray below meth c s.heap [] 0 0 _ _
  rw [← hHe, ← hlo]
  refine lv_aload_n hx hb dX8_phases_0 rfl (lv_at hl 0 rfl) ?_
  refine lv_iconst (v := 0) hx hb dX8_phases_1 (by decide) ?_
  refine q_putV (T := TX8) (N := 25) (ty0 := tyX8) (ty := tyX8 0) X hH hf iw_X8 tyX8_ok nmX8 rfl (by decide) tw_1609 (fun _ h => h) rfl (tyX8_ok 0 (by decide)) rfl rfl dX8_phases_2 (fun S1 hf H locs hH => ?_)
  refine lv_aload_n hx hb dX8_phases_5 rfl (lv_at hl 0 rfl) ?_
  refine q_getR (T := TX8) (N := 25) X hH hf iw_X8 rfl (by decide) tw_1610 (fun _ h => h) dX8_phases_6 (fun v2 hf => ?_)
  refine lv_iconst (v := 0) hx hb dX8_phases_9 (by decide) ?_
  refine q_iald X hH hf dX8_phases_10 (fun v3 hf => ?_)
  refine lv_iconst (v := 1) hx hb dX8_phases_11 (by decide) ?_
  refine lv_icmp_le (tgt := 26) hx hb dX8_phases_12 (by decide) (fun c4 => ?_) (fun c4 => ?_)
  · have hf := (if_pos c4).mp hf
    refine lv_iconst (v := 0) hx hb dX8_phases_26 (by decide) ?_
    exact q_retI X hH hr hlk hf (Nat.zero_le _) (Nat.zero_le _) dX8_phases_27
  · have hf := (if_neg c4).mp hf
    refine lv_aload_n hx hb dX8_phases_15 rfl (lv_at hl 0 rfl) ?_
    refine q_getR (T := TX8) (N := 25) X hH hf iw_X8 rfl (by decide) tw_1610 (fun _ h => h) dX8_phases_16 (fun v5 hf => ?_)
    refine lv_iconst (v := 0) hx hb dX8_phases_19 (by decide) ?_
    refine q_iald X hH hf dX8_phases_20 (fun v6 hf => ?_)
    refine lv_iconst (v := 1) hx hb dX8_phases_21 (by decide) ?_
    refine lv_isub hx hb dX8_phases_22 ?_
    refine lv_goto (tgt := 27) hx hb dX8_phases_23 (by decide) ?_
    exact q_retI X hH hr hlk hf (Nat.zero_le _) (Nat.zero_le _) dX8_phases_27
-- X8_phaseOf
def f_X8_phaseOf_J27 (post : Int32 → PS → Prop) (S : PS) (l0 : Nat) (l1 : Int32) (l2 : Int32) (t0 : Int32) (t1 : Nat) : Prop :=
  pV S t1 12 0 (.int t0) fun S1 => (
  gI S1 l0 12 0 fun v2 => (
  if v2 = 0 then
    isO S1 l0 12 (
    f_X8_laysPhases S1 l0 fun S4 => (
    gR S4 l0 12 1 fun v6 => (
    aI S4 v6 0 0 fun v7 => (
    if l2 = 0 then
      gR S4 l0 12 11 fun v9 => (
      aI S4 v9 0 l1 fun v10 => (
      post v10 S4))
    else
    if l2 = 1 then
      post (v7 - l1) S4
    else
    if l2 = 2 then
      gR S4 l0 12 9 fun v13 => (
      aI S4 v13 0 ((((9 : Int32) * l1) + (v7 - l1)) - 1) fun v14 => (
      f_X8_lowest S4 v14 fun v16 S15 => (
      post v16 S15)))
    else
    if l2 = 3 then
      gR S4 l0 12 9 fun v18 => (
      aI S4 v18 0 ((((9 : Int32) * l1) + (v7 - l1)) - 2) fun v19 => (
      f_X8_lowest S4 v19 fun v21 S20 => (
      post v21 S20)))
    else
      gR S4 l0 12 9 fun v22 => (
      aI S4 v22 0 ((((9 : Int32) * l1) + (v7 - l1)) - 1) fun v23 => (
      post v23 S4))))))
  else
    post 0 S1))
def f_X8_phaseOf (S : PS) (a0 : Nat) (a1 : Int32) (a2 : Int32) (post : Int32 → PS → Prop) : Prop :=
  isO S a0 12 (
  f_X8_isPhase S a0 a1 fun v2 S1 => (
  if v2 = 0 then
    f_X8_phaseOf_J27 post S1 a0 a1 a2 1 a0
  else
    f_X8_in S1 a2 0 4 fun v5 S4 => (
    if v5 = 0 then
      f_X8_phaseOf_J27 post S4 a0 a1 a2 2 a0
    else
      f_X8_phaseOf_J27 post S4 a0 a1 a2 0 a0)))
abbrev rm_X8_phaseOf : Room := { frames := 4, cells := 0, slots := 0, locals := 97 }
set_option maxHeartbeats 4000000 in
set_option maxRecDepth 100000 in
theorem c_X8_phaseOf (l : Launch) (D : va_G) (cy : Nat → ClassId) (G : p_GT) (hG : p_ok G) (S : PS) (a0 : Nat) (a1 : Int32) (a2 : Int32) (post : Int32 → PS → Prop) (sz : Nat) (hf : f_X8_phaseOf S a0 a1 a2 post) : p_Mi l D cy G S sz yX8_phaseOf (Cond.code yX8_phaseOf cX8_phaseOf 4 (some .int) :: wG) rm_X8_phaseOf [.ref a0, .int a1, .int a2] 0 0 post := by
  refine q_start hG (Qc := fun A => va_Qi post (p_Post D cy A) A) mf_X8_phaseOf (Nat.le_of_ble_eq_true rfl) (own := RX8) rfl ?_
  intro p e s m below meth c A X hr hlk hnm ls hl hH
  have hx := X.1.1
  have hb := X.1.2.1
  replace hl : lv_has ls 4 [(0, .ref a0), (1, .int a1), (2, .int a2)] := hl
  obtain ⟨H, hHe⟩ : ∃ H, H = s.heap := ⟨_, rfl⟩
  obtain ⟨locs, hlo⟩ : ∃ locs : List Loc, locs = [] := ⟨_, rfl⟩
  rw [← hHe, ← hlo] at hH
  show W p l e rm_X8_phaseOf s m [.ref a0, .int a1, .int a2].toArray below meth c s.heap [] 0 0 _ _
  rw [← hHe, ← hlo]
  have hJ27 : ∀ (S : PS) (l0 : Nat) (l1 : Int32) (l2 : Int32) (t0 : Int32) (t1 : Nat), f_X8_phaseOf_J27 post S l0 l1 l2 t0 t1 → ∀ (H : Heap) (locs : List Loc) (ls : Array Slot), p_H D cy S A s H locs → lv_has ls 4 [(0, .ref l0), (1, .int l1), (2, .int l2)] → W p l e rm_X8_phaseOf s m [.ref a0, .int a1, .int a2].toArray below meth c H locs 0 0 (MQ below (va_Qi post (p_Post D cy A) A) [.ref a0, .int a1, .int a2].toArray s 0 0 A) (F0 m 27 ls [.int t0, .ref t1]) := by
    intro S l0 l1 l2 t0 t1 hf H locs ls hH hl
    refine q_putV (T := TX8) (N := 25) (ty0 := tyX8) (ty := tyX8 0) X hH hf iw_X8 tyX8_ok nmX8 rfl (by decide) tw_1609 (fun _ h => h) rfl (tyX8_ok 0 (by decide)) rfl rfl dX8_phaseOf_27 (fun S1 hf H locs hH => ?_)
    refine lv_aload_n hx hb dX8_phaseOf_30 rfl (lv_at hl 0 rfl) ?_
    refine q_getI (T := TX8) (N := 25) X hH hf iw_X8 rfl (by decide) tw_1609 (fun _ h => h) dX8_phaseOf_31 (fun v2 hf => ?_)
    refine lv_if_eq (tgt := 39) hx hb dX8_phaseOf_34 (by decide) (fun c3 => ?_) (fun c3 => ?_)
    · have hf := (if_pos c3).mp hf
      refine lv_aload_n hx hb dX8_phaseOf_39 rfl (lv_at hl 0 rfl) ?_
      obtain ⟨hb1, hb2, hf⟩ := hf
      refine q_backV0 X hH (q_runV [] [] X hH hl (c_X8_laysPhases l D cy G X.2.2.2.1 S1 l0 _ _ hf) mf_X8_laysPhases mv_X8_laysPhases tw_1820 ⟨Nat.le_of_ble_eq_true rfl, Nat.le_of_ble_eq_true rfl⟩ hb1 hb2 (T := TX8) (N := 25) rfl rfl (Nat.le_of_ble_eq_true rfl) dX8_phaseOf_40 ⟨Nat.le_of_ble_eq_true rfl, Nat.le_of_ble_eq_true rfl⟩) (fun S4 hf H locs hH => ?_)
      refine lv_aload_n hx hb dX8_phaseOf_43 rfl (lv_at hl 0 rfl) ?_
      refine q_getR (T := TX8) (N := 25) X hH hf iw_X8 rfl (by decide) tw_1610 (fun _ h => h) dX8_phaseOf_44 (fun v6 hf => ?_)
      refine lv_iconst (v := 0) hx hb dX8_phaseOf_47 (by decide) ?_
      refine q_iald X hH hf dX8_phaseOf_48 (fun v7 hf => ?_)
      refine lv_iload_n hx hb dX8_phaseOf_49 rfl (lv_at hl 1 rfl) ?_
      refine lv_isub hx hb dX8_phaseOf_50 ?_
      refine lv_istore_n (lv' := [(3, .int (v7 - l1)), (0, .ref l0), (1, .int l1), (2, .int l2)]) hx hb dX8_phaseOf_51 rfl hl (by decide) rfl (fun ls hl => ?_)
      refine lv_iload_n hx hb dX8_phaseOf_52 rfl (lv_at hl 3 rfl) ?_
      by_cases c8 : l2 = 0
      · have hf := (if_pos c8).mp hf
        refine lv_tableIn (off := 31) (tgt := 84) hx hb dX8_phaseOf_53 (by rw [c8]; decide) (by rw [c8]; decide) (by rw [c8]; rfl) (by decide) ?_
        refine lv_aload_n hx hb dX8_phaseOf_84 rfl (lv_at hl 1 rfl) ?_
        refine q_getR (T := TX8) (N := 25) X hH hf iw_X8 rfl (by decide) tw_1620 (fun _ h => h) dX8_phaseOf_85 (fun v9 hf => ?_)
        refine lv_iload_n hx hb dX8_phaseOf_88 rfl (lv_at hl 2 rfl) ?_
        refine q_iald X hH hf dX8_phaseOf_89 (fun v10 hf => ?_)
        exact q_retI X hH hr hlk hf (Nat.zero_le _) (Nat.zero_le _) dX8_phaseOf_90
      · have hf := (if_neg c8).mp hf
        by_cases c11 : l2 = 1
        · have hf := (if_pos c11).mp hf
          refine lv_tableIn (off := 38) (tgt := 91) hx hb dX8_phaseOf_53 (by rw [c11]; decide) (by rw [c11]; decide) (by rw [c11]; rfl) (by decide) ?_
          refine lv_iload_n hx hb dX8_phaseOf_91 rfl (lv_at hl 0 rfl) ?_
          exact q_retI X hH hr hlk hf (Nat.zero_le _) (Nat.zero_le _) dX8_phaseOf_92
        · have hf := (if_neg c11).mp hf
          by_cases c12 : l2 = 2
          · have hf := (if_pos c12).mp hf
            refine lv_tableIn (off := 40) (tgt := 93) hx hb dX8_phaseOf_53 (by rw [c12]; decide) (by rw [c12]; decide) (by rw [c12]; rfl) (by decide) ?_
            refine lv_aload_n hx hb dX8_phaseOf_93 rfl (lv_at hl 1 rfl) ?_
            refine q_getR (T := TX8) (N := 25) X hH hf iw_X8 rfl (by decide) tw_1618 (fun _ h => h) dX8_phaseOf_94 (fun v13 hf => ?_)
            refine lv_bipush (v := 9) hx hb dX8_phaseOf_97 (by decide) ?_
            refine lv_iload_n hx hb dX8_phaseOf_99 rfl (lv_at hl 2 rfl) ?_
            refine lv_imul hx hb dX8_phaseOf_100 ?_
            refine lv_iload_n hx hb dX8_phaseOf_101 rfl (lv_at hl 0 rfl) ?_
            refine lv_iadd hx hb dX8_phaseOf_102 ?_
            refine lv_iconst (v := 1) hx hb dX8_phaseOf_103 (by decide) ?_
            refine lv_isub hx hb dX8_phaseOf_104 ?_
            refine q_iald X hH hf dX8_phaseOf_105 (fun v14 hf => ?_)
            refine q_backI0 X hH (q_runS [.int v14] [] X hH hl (c_X8_lowest l D cy G X.2.2.2.1 S4 v14 _ _ hf) mf_X8_lowest tw_1834 tw_1833 ⟨Nat.le_of_ble_eq_true rfl, Nat.le_of_ble_eq_true rfl⟩ rfl (Nat.le_of_ble_eq_true rfl) dX8_phaseOf_106 ⟨Nat.le_of_ble_eq_true rfl, Nat.le_of_ble_eq_true rfl⟩) (fun v16 S15 hf H locs hH => ?_)
            exact q_retI X hH hr hlk hf (Nat.zero_le _) (Nat.zero_le _) dX8_phaseOf_109
          · have hf := (if_neg c12).mp hf
            by_cases c17 : l2 = 3
            · have hf := (if_pos c17).mp hf
              refine lv_tableIn (off := 57) (tgt := 110) hx hb dX8_phaseOf_53 (by rw [c17]; decide) (by rw [c17]; decide) (by rw [c17]; rfl) (by decide) ?_
              refine lv_aload_n hx hb dX8_phaseOf_110 rfl (lv_at hl 1 rfl) ?_
              refine q_getR (T := TX8) (N := 25) X hH hf iw_X8 rfl (by decide) tw_1618 (fun _ h => h) dX8_phaseOf_111 (fun v18 hf => ?_)
              refine lv_bipush (v := 9) hx hb dX8_phaseOf_114 (by decide) ?_
              refine lv_iload_n hx hb dX8_phaseOf_116 rfl (lv_at hl 2 rfl) ?_
              refine lv_imul hx hb dX8_phaseOf_117 ?_
              refine lv_iload_n hx hb dX8_phaseOf_118 rfl (lv_at hl 0 rfl) ?_
              refine lv_iadd hx hb dX8_phaseOf_119 ?_
              refine lv_iconst (v := 2) hx hb dX8_phaseOf_120 (by decide) ?_
              refine lv_isub hx hb dX8_phaseOf_121 ?_
              refine q_iald X hH hf dX8_phaseOf_122 (fun v19 hf => ?_)
              refine q_backI0 X hH (q_runS [.int v19] [] X hH hl (c_X8_lowest l D cy G X.2.2.2.1 S4 v19 _ _ hf) mf_X8_lowest tw_1834 tw_1833 ⟨Nat.le_of_ble_eq_true rfl, Nat.le_of_ble_eq_true rfl⟩ rfl (Nat.le_of_ble_eq_true rfl) dX8_phaseOf_123 ⟨Nat.le_of_ble_eq_true rfl, Nat.le_of_ble_eq_true rfl⟩) (fun v21 S20 hf H locs hH => ?_)
              exact q_retI X hH hr hlk hf (Nat.zero_le _) (Nat.zero_le _) dX8_phaseOf_126
            · have hf := (if_neg c17).mp hf
              refine lv_tableOut (tgt := 127) hx hb dX8_phaseOf_53 (by have z0 := lv_neT c8 (a := 0) rfl; have z1 := lv_neT c11 (a := 1) rfl; have z2 := lv_neT c12 (a := 2) rfl; have z3 := lv_neT c17 (a := 3) rfl; omega) (by decide) ?_
              refine lv_aload_n hx hb dX8_phaseOf_127 rfl (lv_at hl 1 rfl) ?_
              refine q_getR (T := TX8) (N := 25) X hH hf iw_X8 rfl (by decide) tw_1618 (fun _ h => h) dX8_phaseOf_128 (fun v22 hf => ?_)
              refine lv_bipush (v := 9) hx hb dX8_phaseOf_131 (by decide) ?_
              refine lv_iload_n hx hb dX8_phaseOf_133 rfl (lv_at hl 2 rfl) ?_
              refine lv_imul hx hb dX8_phaseOf_134 ?_
              refine lv_iload_n hx hb dX8_phaseOf_135 rfl (lv_at hl 0 rfl) ?_
              refine lv_iadd hx hb dX8_phaseOf_136 ?_
              refine lv_iconst (v := 1) hx hb dX8_phaseOf_137 (by decide) ?_
              refine lv_isub hx hb dX8_phaseOf_138 ?_
              refine q_iald X hH hf dX8_phaseOf_139 (fun v23 hf => ?_)
              exact q_retI X hH hr hlk hf (Nat.zero_le _) (Nat.zero_le _) dX8_phaseOf_140
    · have hf := (if_neg c3).mp hf
      refine lv_iconst (v := 0) hx hb dX8_phaseOf_37 (by decide) ?_
      exact q_retI X hH hr hlk hf (Nat.zero_le _) (Nat.zero_le _) dX8_phaseOf_38
  refine lv_aload_n hx hb dX8_phaseOf_0 rfl (lv_at hl 0 rfl) ?_
  refine lv_aload_n hx hb dX8_phaseOf_1 rfl (lv_at hl 0 rfl) ?_
  refine lv_iload_n hx hb dX8_phaseOf_2 rfl (lv_at hl 1 rfl) ?_
  obtain ⟨hb1, hb2, hf⟩ := hf
  refine q_backI0 X hH (q_runV [.int a1] [.ref a0] X hH hl (c_X8_isPhase l D cy G X.2.2.2.1 S a0 a1 _ _ hf) mf_X8_isPhase mv_X8_isPhase tw_1844 ⟨Nat.le_of_ble_eq_true rfl, Nat.le_of_ble_eq_true rfl⟩ hb1 hb2 (T := TX8) (N := 25) rfl rfl (Nat.le_of_ble_eq_true rfl) dX8_phaseOf_3 ⟨Nat.le_of_ble_eq_true rfl, Nat.le_of_ble_eq_true rfl⟩) (fun v2 S1 hf H locs hH => ?_)
  refine lv_if_ne (tgt := 13) hx hb dX8_phaseOf_6 (by decide) (fun c3 => ?_) (fun c3 => ?_)
  · have hf := (if_neg c3).mp hf
    refine lv_iload_n hx hb dX8_phaseOf_13 rfl (lv_at hl 2 rfl) ?_
    refine lv_iconst (v := 0) hx hb dX8_phaseOf_14 (by decide) ?_
    refine lv_iconst (v := 4) hx hb dX8_phaseOf_15 (by decide) ?_
    refine q_backI0 X hH (q_runS [.int a2, .int 0, .int 4] [.ref a0] X hH hl (c_X8_in l D cy G X.2.2.2.1 S1 a2 0 4 _ _ hf) mf_X8_in tw_1695 tw_1694 ⟨Nat.le_of_ble_eq_true rfl, Nat.le_of_ble_eq_true rfl⟩ rfl (Nat.le_of_ble_eq_true rfl) dX8_phaseOf_16 ⟨Nat.le_of_ble_eq_true rfl, Nat.le_of_ble_eq_true rfl⟩) (fun v5 S4 hf H locs hH => ?_)
    refine lv_if_eq (tgt := 26) hx hb dX8_phaseOf_19 (by decide) (fun c6 => ?_) (fun c6 => ?_)
    · have hf := (if_pos c6).mp hf
      refine lv_iconst (v := 2) hx hb dX8_phaseOf_26 (by decide) ?_
      exact hJ27 S4 a0 a1 a2 2 a0 hf H locs ls hH hl
    · have hf := (if_neg c6).mp hf
      refine lv_iconst (v := 0) hx hb dX8_phaseOf_22 (by decide) ?_
      refine lv_goto (tgt := 27) hx hb dX8_phaseOf_23 (by decide) ?_
      exact hJ27 S4 a0 a1 a2 0 a0 hf H locs ls hH hl
  · have hf := (if_pos c3).mp hf
    refine lv_iconst (v := 1) hx hb dX8_phaseOf_9 (by decide) ?_
    refine lv_goto (tgt := 27) hx hb dX8_phaseOf_10 (by decide) ?_
    exact hJ27 S1 a0 a1 a2 1 a0 hf H locs ls hH hl
-- X8_isPlace
def f_X8_isPlace_J36 (post : Int32 → PS → Prop) (S : PS) (l0 : Nat) (t0 : Int32) (t1 : Nat) : Prop :=
  pV S t1 12 0 (.int t0) fun S1 => (
  isO S1 l0 12 (
  f_X8_laysPhases S1 l0 fun S2 => (
  gI S2 l0 12 0 fun v4 => (
  if v4 = 0 then
    nZ .boolean 1 (post 1 S2)
  else
    nZ .boolean 0 (post 0 S2)))))
def f_X8_isPlace (S : PS) (a0 : Nat) (a1 : Int32) (a2 : Int32) (post : Int32 → PS → Prop) : Prop :=
  isO S a0 12 (
  f_X8_isPhase S a0 a1 fun v2 S1 => (
  if v2 = 0 then
    f_X8_isPlace_J36 post S1 a0 1 a0
  else
    gR S1 a0 12 1 fun v4 => (
    aI S1 v4 0 0 fun v5 => (
    f_X8_in S1 a2 0 ((v5 - a1) - 1) fun v7 S6 => (
    if v7 = 0 then
      f_X8_isPlace_J36 post S6 a0 2 a0
    else
      f_X8_isPlace_J36 post S6 a0 0 a0)))))
abbrev rm_X8_isPlace : Room := { frames := 4, cells := 0, slots := 0, locals := 97 }
set_option maxHeartbeats 4000000 in
set_option maxRecDepth 100000 in
theorem c_X8_isPlace (l : Launch) (D : va_G) (cy : Nat → ClassId) (G : p_GT) (hG : p_ok G) (S : PS) (a0 : Nat) (a1 : Int32) (a2 : Int32) (post : Int32 → PS → Prop) (sz : Nat) (hf : f_X8_isPlace S a0 a1 a2 post) : p_Mi l D cy G S sz yX8_isPlace (Cond.code yX8_isPlace cX8_isPlace 3 (some .boolean) :: wG) rm_X8_isPlace [.ref a0, .int a1, .int a2] 0 0 post := by
  refine q_start hG (Qc := fun A => va_Qi post (p_Post D cy A) A) mf_X8_isPlace (Nat.le_of_ble_eq_true rfl) (own := RX8) rfl ?_
  intro p e s m below meth c A X hr hlk hnm ls hl hH
  have hx := X.1.1
  have hb := X.1.2.1
  replace hl : lv_has ls 3 [(0, .ref a0), (1, .int a1), (2, .int a2)] := hl
  obtain ⟨H, hHe⟩ : ∃ H, H = s.heap := ⟨_, rfl⟩
  obtain ⟨locs, hlo⟩ : ∃ locs : List Loc, locs = [] := ⟨_, rfl⟩
  rw [← hHe, ← hlo] at hH
  show W p l e rm_X8_isPlace s m [.ref a0, .int a1, .int a2].toArray below meth c s.heap [] 0 0 _ _
  rw [← hHe, ← hlo]
  have hJ36 : ∀ (S : PS) (l0 : Nat) (t0 : Int32) (t1 : Nat), f_X8_isPlace_J36 post S l0 t0 t1 → ∀ (H : Heap) (locs : List Loc) (ls : Array Slot), p_H D cy S A s H locs → lv_has ls 3 [(0, .ref l0)] → W p l e rm_X8_isPlace s m [.ref a0, .int a1, .int a2].toArray below meth c H locs 0 0 (MQ below (va_Qi post (p_Post D cy A) A) [.ref a0, .int a1, .int a2].toArray s 0 0 A) (F0 m 36 ls [.int t0, .ref t1]) := by
    intro S l0 t0 t1 hf H locs ls hH hl
    refine q_putV (T := TX8) (N := 25) (ty0 := tyX8) (ty := tyX8 0) X hH hf iw_X8 tyX8_ok nmX8 rfl (by decide) tw_1609 (fun _ h => h) rfl (tyX8_ok 0 (by decide)) rfl rfl dX8_isPlace_36 (fun S1 hf H locs hH => ?_)
    refine lv_aload_n hx hb dX8_isPlace_39 rfl (lv_at hl 0 rfl) ?_
    obtain ⟨hb1, hb2, hf⟩ := hf
    refine q_backV0 X hH (q_runV [] [] X hH hl (c_X8_laysPhases l D cy G X.2.2.2.1 S1 l0 _ _ hf) mf_X8_laysPhases mv_X8_laysPhases tw_1820 ⟨Nat.le_of_ble_eq_true rfl, Nat.le_of_ble_eq_true rfl⟩ hb1 hb2 (T := TX8) (N := 25) rfl rfl (Nat.le_of_ble_eq_true rfl) dX8_isPlace_40 ⟨Nat.le_of_ble_eq_true rfl, Nat.le_of_ble_eq_true rfl⟩) (fun S2 hf H locs hH => ?_)
    refine lv_aload_n hx hb dX8_isPlace_43 rfl (lv_at hl 0 rfl) ?_
    refine q_getI (T := TX8) (N := 25) X hH hf iw_X8 rfl (by decide) tw_1609 (fun _ h => h) dX8_isPlace_44 (fun v4 hf => ?_)
    refine lv_if_ne (tgt := 54) hx hb dX8_isPlace_47 (by decide) (fun c5 => ?_) (fun c5 => ?_)
    · have hf := (if_neg c5).mp hf
      refine lv_iconst (v := 0) hx hb dX8_isPlace_54 (by decide) ?_
      exact q_retZ X hH hr hlk hf (Nat.zero_le _) (Nat.zero_le _) dX8_isPlace_55
    · have hf := (if_pos c5).mp hf
      refine lv_iconst (v := 1) hx hb dX8_isPlace_50 (by decide) ?_
      refine lv_goto (tgt := 55) hx hb dX8_isPlace_51 (by decide) ?_
      exact q_retZ X hH hr hlk hf (Nat.zero_le _) (Nat.zero_le _) dX8_isPlace_55
  refine lv_aload_n hx hb dX8_isPlace_0 rfl (lv_at hl 0 rfl) ?_
  refine lv_aload_n hx hb dX8_isPlace_1 rfl (lv_at hl 0 rfl) ?_
  refine lv_iload_n hx hb dX8_isPlace_2 rfl (lv_at hl 1 rfl) ?_
  obtain ⟨hb1, hb2, hf⟩ := hf
  refine q_backI0 X hH (q_runV [.int a1] [.ref a0] X hH hl (c_X8_isPhase l D cy G X.2.2.2.1 S a0 a1 _ _ hf) mf_X8_isPhase mv_X8_isPhase tw_1844 ⟨Nat.le_of_ble_eq_true rfl, Nat.le_of_ble_eq_true rfl⟩ hb1 hb2 (T := TX8) (N := 25) rfl rfl (Nat.le_of_ble_eq_true rfl) dX8_isPlace_3 ⟨Nat.le_of_ble_eq_true rfl, Nat.le_of_ble_eq_true rfl⟩) (fun v2 S1 hf H locs hH => ?_)
  refine lv_if_ne (tgt := 13) hx hb dX8_isPlace_6 (by decide) (fun c3 => ?_) (fun c3 => ?_)
  · have hf := (if_neg c3).mp hf
    refine lv_iload_n hx hb dX8_isPlace_13 rfl (lv_at hl 2 rfl) ?_
    refine lv_iconst (v := 0) hx hb dX8_isPlace_14 (by decide) ?_
    refine lv_aload_n hx hb dX8_isPlace_15 rfl (lv_at hl 0 rfl) ?_
    refine q_getR (T := TX8) (N := 25) X hH hf iw_X8 rfl (by decide) tw_1610 (fun _ h => h) dX8_isPlace_16 (fun v4 hf => ?_)
    refine lv_iconst (v := 0) hx hb dX8_isPlace_19 (by decide) ?_
    refine q_iald X hH hf dX8_isPlace_20 (fun v5 hf => ?_)
    refine lv_iload_n hx hb dX8_isPlace_21 rfl (lv_at hl 1 rfl) ?_
    refine lv_isub hx hb dX8_isPlace_22 ?_
    refine lv_iconst (v := 1) hx hb dX8_isPlace_23 (by decide) ?_
    refine lv_isub hx hb dX8_isPlace_24 ?_
    refine q_backI0 X hH (q_runS [.int a2, .int 0, .int ((v5 - a1) - 1)] [.ref a0] X hH hl (c_X8_in l D cy G X.2.2.2.1 S1 a2 0 ((v5 - a1) - 1) _ _ hf) mf_X8_in tw_1695 tw_1694 ⟨Nat.le_of_ble_eq_true rfl, Nat.le_of_ble_eq_true rfl⟩ rfl (Nat.le_of_ble_eq_true rfl) dX8_isPlace_25 ⟨Nat.le_of_ble_eq_true rfl, Nat.le_of_ble_eq_true rfl⟩) (fun v7 S6 hf H locs hH => ?_)
    refine lv_if_eq (tgt := 35) hx hb dX8_isPlace_28 (by decide) (fun c8 => ?_) (fun c8 => ?_)
    · have hf := (if_pos c8).mp hf
      refine lv_iconst (v := 2) hx hb dX8_isPlace_35 (by decide) ?_
      exact hJ36 S6 a0 2 a0 hf H locs ls hH (lv_sub hl [0] rfl)
    · have hf := (if_neg c8).mp hf
      refine lv_iconst (v := 0) hx hb dX8_isPlace_31 (by decide) ?_
      refine lv_goto (tgt := 36) hx hb dX8_isPlace_32 (by decide) ?_
      exact hJ36 S6 a0 0 a0 hf H locs ls hH (lv_sub hl [0] rfl)
  · have hf := (if_pos c3).mp hf
    refine lv_iconst (v := 1) hx hb dX8_isPlace_9 (by decide) ?_
    refine lv_goto (tgt := 36) hx hb dX8_isPlace_10 (by decide) ?_
    exact hJ36 S1 a0 1 a0 hf H locs ls hH (lv_sub hl [0] rfl)
-- X8_joined
def f_X8_joined (S : PS) (a0 : Nat) (a1 : Int32) (a2 : Int32) (post : Int32 → PS → Prop) : Prop :=
  isO S a0 12 (
  f_X8_isPlace S a0 a1 a2 fun v2 S1 => (
  if v2 = 0 then
    post 0 S1
  else
    gR S1 a0 12 9 fun v4 => (
    aI S1 v4 0 (((9 : Int32) * a1) + a2) fun v5 => (
    f_X8_lowest S1 v5 fun v7 S6 => (
    post v7 S6)))))
abbrev rm_X8_joined : Room := { frames := 5, cells := 0, slots := 0, locals := 119 }
set_option maxHeartbeats 4000000 in
set_option maxRecDepth 100000 in
theorem c_X8_joined (l : Launch) (D : va_G) (cy : Nat → ClassId) (G : p_GT) (hG : p_ok G) (S : PS) (a0 : Nat) (a1 : Int32) (a2 : Int32) (post : Int32 → PS → Prop) (sz : Nat) (hf : f_X8_joined S a0 a1 a2 post) : p_Mi l D cy G S sz yX8_joined (Cond.code yX8_joined cX8_joined 3 (some .int) :: wG) rm_X8_joined [.ref a0, .int a1, .int a2] 0 0 post := by
  refine q_start hG (Qc := fun A => va_Qi post (p_Post D cy A) A) mf_X8_joined (Nat.le_of_ble_eq_true rfl) (own := RX8) rfl ?_
  intro p e s m below meth c A X hr hlk hnm ls hl hH
  have hx := X.1.1
  have hb := X.1.2.1
  replace hl : lv_has ls 3 [(0, .ref a0), (1, .int a1), (2, .int a2)] := hl
  obtain ⟨H, hHe⟩ : ∃ H, H = s.heap := ⟨_, rfl⟩
  obtain ⟨locs, hlo⟩ : ∃ locs : List Loc, locs = [] := ⟨_, rfl⟩
  rw [← hHe, ← hlo] at hH
  show W p l e rm_X8_joined s m [.ref a0, .int a1, .int a2].toArray below meth c s.heap [] 0 0 _ _
  rw [← hHe, ← hlo]
  refine lv_aload_n hx hb dX8_joined_0 rfl (lv_at hl 0 rfl) ?_
  refine lv_iload_n hx hb dX8_joined_1 rfl (lv_at hl 1 rfl) ?_
  refine lv_iload_n hx hb dX8_joined_2 rfl (lv_at hl 2 rfl) ?_
  obtain ⟨hb1, hb2, hf⟩ := hf
  refine q_backI0 X hH (q_runV [.int a1, .int a2] [] X hH hl (c_X8_isPlace l D cy G X.2.2.2.1 S a0 a1 a2 _ _ hf) mf_X8_isPlace mv_X8_isPlace tw_1852 ⟨Nat.le_of_ble_eq_true rfl, Nat.le_of_ble_eq_true rfl⟩ hb1 hb2 (T := TX8) (N := 25) rfl rfl (Nat.le_of_ble_eq_true rfl) dX8_joined_3 ⟨Nat.le_of_ble_eq_true rfl, Nat.le_of_ble_eq_true rfl⟩) (fun v2 S1 hf H locs hH => ?_)
  refine lv_if_eq (tgt := 26) hx hb dX8_joined_6 (by decide) (fun c3 => ?_) (fun c3 => ?_)
  · have hf := (if_pos c3).mp hf
    refine lv_iconst (v := 0) hx hb dX8_joined_26 (by decide) ?_
    exact q_retI X hH hr hlk hf (Nat.zero_le _) (Nat.zero_le _) dX8_joined_27
  · have hf := (if_neg c3).mp hf
    refine lv_aload_n hx hb dX8_joined_9 rfl (lv_at hl 0 rfl) ?_
    refine q_getR (T := TX8) (N := 25) X hH hf iw_X8 rfl (by decide) tw_1618 (fun _ h => h) dX8_joined_10 (fun v4 hf => ?_)
    refine lv_bipush (v := 9) hx hb dX8_joined_13 (by decide) ?_
    refine lv_iload_n hx hb dX8_joined_15 rfl (lv_at hl 1 rfl) ?_
    refine lv_imul hx hb dX8_joined_16 ?_
    refine lv_iload_n hx hb dX8_joined_17 rfl (lv_at hl 2 rfl) ?_
    refine lv_iadd hx hb dX8_joined_18 ?_
    refine q_iald X hH hf dX8_joined_19 (fun v5 hf => ?_)
    refine q_backI0 X hH (q_runS [.int v5] [] X hH hl (c_X8_lowest l D cy G X.2.2.2.1 S1 v5 _ _ hf) mf_X8_lowest tw_1834 tw_1833 ⟨Nat.le_of_ble_eq_true rfl, Nat.le_of_ble_eq_true rfl⟩ rfl (Nat.le_of_ble_eq_true rfl) dX8_joined_20 ⟨Nat.le_of_ble_eq_true rfl, Nat.le_of_ble_eq_true rfl⟩) (fun v7 S6 hf H locs hH => ?_)
    refine lv_goto (tgt := 27) hx hb dX8_joined_23 (by decide) ?_
    exact q_retI X hH hr hlk hf (Nat.zero_le _) (Nat.zero_le _) dX8_joined_27
-- X8_tieAt
def f_X8_tieAt (S : PS) (a0 : Nat) (a1 : Int32) (a2 : Int32) (post : Int32 → PS → Prop) : Prop :=
  isO S a0 12 (
  f_X8_isPlace S a0 a1 a2 fun v2 S1 => (
  if v2 = 0 then
    post 0 S1
  else
    gR S1 a0 12 10 fun v4 => (
    aI S1 v4 0 (((9 : Int32) * a1) + a2) fun v5 => (
    post v5 S1))))
abbrev rm_X8_tieAt : Room := { frames := 5, cells := 0, slots := 0, locals := 119 }
set_option maxHeartbeats 4000000 in
set_option maxRecDepth 100000 in
theorem c_X8_tieAt (l : Launch) (D : va_G) (cy : Nat → ClassId) (G : p_GT) (hG : p_ok G) (S : PS) (a0 : Nat) (a1 : Int32) (a2 : Int32) (post : Int32 → PS → Prop) (sz : Nat) (hf : f_X8_tieAt S a0 a1 a2 post) : p_Mi l D cy G S sz yX8_tieAt (Cond.code yX8_tieAt cX8_tieAt 3 (some .int) :: wG) rm_X8_tieAt [.ref a0, .int a1, .int a2] 0 0 post := by
  refine q_start hG (Qc := fun A => va_Qi post (p_Post D cy A) A) mf_X8_tieAt (Nat.le_of_ble_eq_true rfl) (own := RX8) rfl ?_
  intro p e s m below meth c A X hr hlk hnm ls hl hH
  have hx := X.1.1
  have hb := X.1.2.1
  replace hl : lv_has ls 3 [(0, .ref a0), (1, .int a1), (2, .int a2)] := hl
  obtain ⟨H, hHe⟩ : ∃ H, H = s.heap := ⟨_, rfl⟩
  obtain ⟨locs, hlo⟩ : ∃ locs : List Loc, locs = [] := ⟨_, rfl⟩
  rw [← hHe, ← hlo] at hH
  show W p l e rm_X8_tieAt s m [.ref a0, .int a1, .int a2].toArray below meth c s.heap [] 0 0 _ _
  rw [← hHe, ← hlo]
  refine lv_aload_n hx hb dX8_tieAt_0 rfl (lv_at hl 0 rfl) ?_
  refine lv_iload_n hx hb dX8_tieAt_1 rfl (lv_at hl 1 rfl) ?_
  refine lv_iload_n hx hb dX8_tieAt_2 rfl (lv_at hl 2 rfl) ?_
  obtain ⟨hb1, hb2, hf⟩ := hf
  refine q_backI0 X hH (q_runV [.int a1, .int a2] [] X hH hl (c_X8_isPlace l D cy G X.2.2.2.1 S a0 a1 a2 _ _ hf) mf_X8_isPlace mv_X8_isPlace tw_1852 ⟨Nat.le_of_ble_eq_true rfl, Nat.le_of_ble_eq_true rfl⟩ hb1 hb2 (T := TX8) (N := 25) rfl rfl (Nat.le_of_ble_eq_true rfl) dX8_tieAt_3 ⟨Nat.le_of_ble_eq_true rfl, Nat.le_of_ble_eq_true rfl⟩) (fun v2 S1 hf H locs hH => ?_)
  refine lv_if_eq (tgt := 23) hx hb dX8_tieAt_6 (by decide) (fun c3 => ?_) (fun c3 => ?_)
  · have hf := (if_pos c3).mp hf
    refine lv_iconst (v := 0) hx hb dX8_tieAt_23 (by decide) ?_
    exact q_retI X hH hr hlk hf (Nat.zero_le _) (Nat.zero_le _) dX8_tieAt_24
  · have hf := (if_neg c3).mp hf
    refine lv_aload_n hx hb dX8_tieAt_9 rfl (lv_at hl 0 rfl) ?_
    refine q_getR (T := TX8) (N := 25) X hH hf iw_X8 rfl (by decide) tw_1619 (fun _ h => h) dX8_tieAt_10 (fun v4 hf => ?_)
    refine lv_bipush (v := 9) hx hb dX8_tieAt_13 (by decide) ?_
    refine lv_iload_n hx hb dX8_tieAt_15 rfl (lv_at hl 1 rfl) ?_
    refine lv_imul hx hb dX8_tieAt_16 ?_
    refine lv_iload_n hx hb dX8_tieAt_17 rfl (lv_at hl 2 rfl) ?_
    refine lv_iadd hx hb dX8_tieAt_18 ?_
    refine q_iald X hH hf dX8_tieAt_19 (fun v5 hf => ?_)
    refine lv_goto (tgt := 24) hx hb dX8_tieAt_20 (by decide) ?_
    exact q_retI X hH hr hlk hf (Nat.zero_le _) (Nat.zero_le _) dX8_tieAt_24
-- X8_areTwo
def f_X8_areTwo_J16 (post : Int32 → PS → Prop) (S : PS) (t0 : Int32) (t1 : Nat) : Prop :=
  isO S t1 12 (
  f_X8_isThere S t1 t0 fun v2 S1 => (
  nZ .boolean v2 (post v2 S1)))
def f_X8_areTwo (S : PS) (a0 : Nat) (post : Int32 → PS → Prop) : Prop :=
  gR S a0 12 1 fun v1 => (
  aI S v1 0 0 fun v2 => (
  if v2 ≤ 1 then
    f_X8_areTwo_J16 post S 0 a0
  else
    f_X8_areTwo_J16 post S 1 a0))
abbrev rm_X8_areTwo : Room := { frames := 1, cells := 0, slots := 0, locals := 21 }
set_option maxHeartbeats 4000000 in
set_option maxRecDepth 100000 in
theorem c_X8_areTwo (l : Launch) (D : va_G) (cy : Nat → ClassId) (G : p_GT) (hG : p_ok G) (S : PS) (a0 : Nat) (post : Int32 → PS → Prop) (sz : Nat) (hf : f_X8_areTwo S a0 post) : p_Mi l D cy G S sz yX8_areTwo (Cond.code yX8_areTwo cX8_areTwo 1 (some .boolean) :: wG) rm_X8_areTwo [.ref a0] 0 0 post := by
  refine q_start hG (Qc := fun A => va_Qi post (p_Post D cy A) A) mf_X8_areTwo (Nat.le_of_ble_eq_true rfl) (own := RX8) rfl ?_
  intro p e s m below meth c A X hr hlk hnm ls hl hH
  have hx := X.1.1
  have hb := X.1.2.1
  replace hl : lv_has ls 1 [(0, .ref a0)] := hl
  obtain ⟨H, hHe⟩ : ∃ H, H = s.heap := ⟨_, rfl⟩
  obtain ⟨locs, hlo⟩ : ∃ locs : List Loc, locs = [] := ⟨_, rfl⟩
  rw [← hHe, ← hlo] at hH
  show W p l e rm_X8_areTwo s m [.ref a0].toArray below meth c s.heap [] 0 0 _ _
  rw [← hHe, ← hlo]
  have hJ16 : ∀ (S : PS) (t0 : Int32) (t1 : Nat), f_X8_areTwo_J16 post S t0 t1 → ∀ (H : Heap) (locs : List Loc) (ls : Array Slot), p_H D cy S A s H locs → lv_has ls 1 [] → W p l e rm_X8_areTwo s m [.ref a0].toArray below meth c H locs 0 0 (MQ below (va_Qi post (p_Post D cy A) A) [.ref a0].toArray s 0 0 A) (F0 m 16 ls [.int t0, .ref t1]) := by
    intro S t0 t1 hf H locs ls hH hl
    obtain ⟨hb1, hb2, hf⟩ := hf
    refine q_backI0 X hH (q_runV [.int t0] [] X hH hl (c_X8_isThere l D cy G X.2.2.2.1 S t1 t0 _ _ hf) mf_X8_isThere mv_X8_isThere tw_1868 ⟨Nat.le_of_ble_eq_true rfl, Nat.le_of_ble_eq_true rfl⟩ hb1 hb2 (T := TX8) (N := 25) rfl rfl (Nat.le_of_ble_eq_true rfl) dX8_areTwo_16 ⟨Nat.le_of_ble_eq_true rfl, Nat.le_of_ble_eq_true rfl⟩) (fun v2 S1 hf H locs hH => ?_)
    exact q_retZ X hH hr hlk hf (Nat.zero_le _) (Nat.zero_le _) dX8_areTwo_19
  refine lv_aload_n hx hb dX8_areTwo_0 rfl (lv_at hl 0 rfl) ?_
  refine lv_aload_n hx hb dX8_areTwo_1 rfl (lv_at hl 0 rfl) ?_
  refine q_getR (T := TX8) (N := 25) X hH hf iw_X8 rfl (by decide) tw_1610 (fun _ h => h) dX8_areTwo_2 (fun v1 hf => ?_)
  refine lv_iconst (v := 0) hx hb dX8_areTwo_5 (by decide) ?_
  refine q_iald X hH hf dX8_areTwo_6 (fun v2 hf => ?_)
  refine lv_iconst (v := 1) hx hb dX8_areTwo_7 (by decide) ?_
  refine lv_icmp_le (tgt := 15) hx hb dX8_areTwo_8 (by decide) (fun c3 => ?_) (fun c3 => ?_)
  · have hf := (if_pos c3).mp hf
    refine lv_iconst (v := 0) hx hb dX8_areTwo_15 (by decide) ?_
    exact hJ16 S 0 a0 hf H locs ls hH (lv_sub hl [] rfl)
  · have hf := (if_neg c3).mp hf
    refine lv_iconst (v := 1) hx hb dX8_areTwo_11 (by decide) ?_
    refine lv_goto (tgt := 16) hx hb dX8_areTwo_12 (by decide) ?_
    exact hJ16 S 1 a0 hf H locs ls hH (lv_sub hl [] rfl)
-- X8_least
def f_X8_least (S : PS) (a0 : Nat) (post : Int32 → PS → Prop) : Prop :=
  isO S a0 12 (
  f_X8_areTwo S a0 fun v2 S1 => (
  if v2 = 0 then
    post 0 S1
  else
    isO S1 a0 12 (
    f_X8_leastNow S1 a0 fun v5 S4 => (
    post v5 S4))))
abbrev rm_X8_least : Room := { frames := 5, cells := 0, slots := 0, locals := 117 }
set_option maxHeartbeats 4000000 in
set_option maxRecDepth 100000 in
theorem c_X8_least (l : Launch) (D : va_G) (cy : Nat → ClassId) (G : p_GT) (hG : p_ok G) (S : PS) (a0 : Nat) (post : Int32 → PS → Prop) (sz : Nat) (hf : f_X8_least S a0 post) : p_Mi l D cy G S sz yX8_least (Cond.code yX8_least cX8_least 1 (some .int) :: wG) rm_X8_least [.ref a0] 0 0 post := by
  refine q_start hG (Qc := fun A => va_Qi post (p_Post D cy A) A) mf_X8_least (Nat.le_of_ble_eq_true rfl) (own := RX8) rfl ?_
  intro p e s m below meth c A X hr hlk hnm ls hl hH
  have hx := X.1.1
  have hb := X.1.2.1
  replace hl : lv_has ls 1 [(0, .ref a0)] := hl
  obtain ⟨H, hHe⟩ : ∃ H, H = s.heap := ⟨_, rfl⟩
  obtain ⟨locs, hlo⟩ : ∃ locs : List Loc, locs = [] := ⟨_, rfl⟩
  rw [← hHe, ← hlo] at hH
  show W p l e rm_X8_least s m [.ref a0].toArray below meth c s.heap [] 0 0 _ _
  rw [← hHe, ← hlo]
  refine lv_aload_n hx hb dX8_least_0 rfl (lv_at hl 0 rfl) ?_
  obtain ⟨hb1, hb2, hf⟩ := hf
  refine q_backI0 X hH (q_runV [] [] X hH hl (c_X8_areTwo l D cy G X.2.2.2.1 S a0 _ _ hf) mf_X8_areTwo mv_X8_areTwo tw_1864 ⟨Nat.le_of_ble_eq_true rfl, Nat.le_of_ble_eq_true rfl⟩ hb1 hb2 (T := TX8) (N := 25) rfl rfl (Nat.le_of_ble_eq_true rfl) dX8_least_1 ⟨Nat.le_of_ble_eq_true rfl, Nat.le_of_ble_eq_true rfl⟩) (fun v2 S1 hf H locs hH => ?_)
  refine lv_if_eq (tgt := 14) hx hb dX8_least_4 (by decide) (fun c3 => ?_) (fun c3 => ?_)
  · have hf := (if_pos c3).mp hf
    refine lv_iconst (v := 0) hx hb dX8_least_14 (by decide) ?_
    exact q_retI X hH hr hlk hf (Nat.zero_le _) (Nat.zero_le _) dX8_least_15
  · have hf := (if_neg c3).mp hf
    refine lv_aload_n hx hb dX8_least_7 rfl (lv_at hl 0 rfl) ?_
    obtain ⟨hb1, hb2, hf⟩ := hf
    refine q_backI0 X hH (q_runV [] [] X hH hl (c_X8_leastNow l D cy G X.2.2.2.1 S1 a0 _ _ hf) mf_X8_leastNow mv_X8_leastNow tw_1872 ⟨Nat.le_of_ble_eq_true rfl, Nat.le_of_ble_eq_true rfl⟩ hb1 hb2 (T := TX8) (N := 25) rfl rfl (Nat.le_of_ble_eq_true rfl) dX8_least_8 ⟨Nat.le_of_ble_eq_true rfl, Nat.le_of_ble_eq_true rfl⟩) (fun v5 S4 hf H locs hH => ?_)
    refine lv_goto (tgt := 15) hx hb dX8_least_11 (by decide) ?_
    exact q_retI X hH hr hlk hf (Nat.zero_le _) (Nat.zero_le _) dX8_least_15
-- X8_leastAgain
def f_X8_leastAgain (S : PS) (a0 : Nat) (post : Int32 → PS → Prop) : Prop :=
  isO S a0 12 (
  f_X8_least S a0 fun v2 S1 => (
  post v2 S1))
abbrev rm_X8_leastAgain : Room := { frames := 6, cells := 0, slots := 0, locals := 137 }
set_option maxHeartbeats 4000000 in
set_option maxRecDepth 100000 in
theorem c_X8_leastAgain (l : Launch) (D : va_G) (cy : Nat → ClassId) (G : p_GT) (hG : p_ok G) (S : PS) (a0 : Nat) (post : Int32 → PS → Prop) (sz : Nat) (hf : f_X8_leastAgain S a0 post) : p_Mi l D cy G S sz yX8_leastAgain (Cond.code yX8_leastAgain cX8_leastAgain 1 (some .int) :: wG) rm_X8_leastAgain [.ref a0] 0 0 post := by
  refine q_start hG (Qc := fun A => va_Qi post (p_Post D cy A) A) mf_X8_leastAgain (Nat.le_of_ble_eq_true rfl) (own := RX8) rfl ?_
  intro p e s m below meth c A X hr hlk hnm ls hl hH
  have hx := X.1.1
  have hb := X.1.2.1
  replace hl : lv_has ls 1 [(0, .ref a0)] := hl
  obtain ⟨H, hHe⟩ : ∃ H, H = s.heap := ⟨_, rfl⟩
  obtain ⟨locs, hlo⟩ : ∃ locs : List Loc, locs = [] := ⟨_, rfl⟩
  rw [← hHe, ← hlo] at hH
  show W p l e rm_X8_leastAgain s m [.ref a0].toArray below meth c s.heap [] 0 0 _ _
  rw [← hHe, ← hlo]
  refine lv_aload_n hx hb dX8_leastAgain_0 rfl (lv_at hl 0 rfl) ?_
  obtain ⟨hb1, hb2, hf⟩ := hf
  refine q_backI0 X hH (q_runV [] [] X hH hl (c_X8_least l D cy G X.2.2.2.1 S a0 _ _ hf) mf_X8_least mv_X8_least tw_1880 ⟨Nat.le_of_ble_eq_true rfl, Nat.le_of_ble_eq_true rfl⟩ hb1 hb2 (T := TX8) (N := 25) rfl rfl (Nat.le_of_ble_eq_true rfl) dX8_leastAgain_1 ⟨Nat.le_of_ble_eq_true rfl, Nat.le_of_ble_eq_true rfl⟩) (fun v2 S1 hf H locs hH => ?_)
  exact q_retI X hH hr hlk hf (Nat.zero_le _) (Nat.zero_le _) dX8_leastAgain_4
-- X8_met
def f_X8_met (S : PS) (a0 : Nat) (post : Int32 → PS → Prop) : Prop :=
  isO S a0 12 (
  f_X8_areTwo S a0 fun v2 S1 => (
  if v2 = 0 then
    post 0 S1
  else
    isO S1 a0 12 (
    f_X8_laysPhases S1 a0 fun S4 => (
    gI S4 a0 12 13 fun v6 => (
    post v6 S4)))))
abbrev rm_X8_met : Room := { frames := 4, cells := 0, slots := 0, locals := 97 }
set_option maxHeartbeats 4000000 in
set_option maxRecDepth 100000 in
theorem c_X8_met (l : Launch) (D : va_G) (cy : Nat → ClassId) (G : p_GT) (hG : p_ok G) (S : PS) (a0 : Nat) (post : Int32 → PS → Prop) (sz : Nat) (hf : f_X8_met S a0 post) : p_Mi l D cy G S sz yX8_met (Cond.code yX8_met cX8_met 1 (some .int) :: wG) rm_X8_met [.ref a0] 0 0 post := by
  refine q_start hG (Qc := fun A => va_Qi post (p_Post D cy A) A) mf_X8_met (Nat.le_of_ble_eq_true rfl) (own := RX8) rfl ?_
  intro p e s m below meth c A X hr hlk hnm ls hl hH
  have hx := X.1.1
  have hb := X.1.2.1
  replace hl : lv_has ls 1 [(0, .ref a0)] := hl
  obtain ⟨H, hHe⟩ : ∃ H, H = s.heap := ⟨_, rfl⟩
  obtain ⟨locs, hlo⟩ : ∃ locs : List Loc, locs = [] := ⟨_, rfl⟩
  rw [← hHe, ← hlo] at hH
  show W p l e rm_X8_met s m [.ref a0].toArray below meth c s.heap [] 0 0 _ _
  rw [← hHe, ← hlo]
  refine lv_aload_n hx hb dX8_met_0 rfl (lv_at hl 0 rfl) ?_
  obtain ⟨hb1, hb2, hf⟩ := hf
  refine q_backI0 X hH (q_runV [] [] X hH hl (c_X8_areTwo l D cy G X.2.2.2.1 S a0 _ _ hf) mf_X8_areTwo mv_X8_areTwo tw_1864 ⟨Nat.le_of_ble_eq_true rfl, Nat.le_of_ble_eq_true rfl⟩ hb1 hb2 (T := TX8) (N := 25) rfl rfl (Nat.le_of_ble_eq_true rfl) dX8_met_1 ⟨Nat.le_of_ble_eq_true rfl, Nat.le_of_ble_eq_true rfl⟩) (fun v2 S1 hf H locs hH => ?_)
  refine lv_if_ne (tgt := 9) hx hb dX8_met_4 (by decide) (fun c3 => ?_) (fun c3 => ?_)
  · have hf := (if_neg c3).mp hf
    refine lv_aload_n hx hb dX8_met_9 rfl (lv_at hl 0 rfl) ?_
    obtain ⟨hb1, hb2, hf⟩ := hf
    refine q_backV0 X hH (q_runV [] [] X hH hl (c_X8_laysPhases l D cy G X.2.2.2.1 S1 a0 _ _ hf) mf_X8_laysPhases mv_X8_laysPhases tw_1820 ⟨Nat.le_of_ble_eq_true rfl, Nat.le_of_ble_eq_true rfl⟩ hb1 hb2 (T := TX8) (N := 25) rfl rfl (Nat.le_of_ble_eq_true rfl) dX8_met_10 ⟨Nat.le_of_ble_eq_true rfl, Nat.le_of_ble_eq_true rfl⟩) (fun S4 hf H locs hH => ?_)
    refine lv_aload_n hx hb dX8_met_13 rfl (lv_at hl 0 rfl) ?_
    refine q_getI (T := TX8) (N := 25) X hH hf iw_X8 rfl (by decide) tw_1622 (fun _ h => h) dX8_met_14 (fun v6 hf => ?_)
    exact q_retI X hH hr hlk hf (Nat.zero_le _) (Nat.zero_le _) dX8_met_17
  · have hf := (if_pos c3).mp hf
    refine lv_iconst (v := 0) hx hb dX8_met_7 (by decide) ?_
    exact q_retI X hH hr hlk hf (Nat.zero_le _) (Nat.zero_le _) dX8_met_8
-- X8_leastSides
def f_X8_leastSides_J41 (post : Int32 → PS → Prop) (g18 : PS → Nat → Int32 → Int32 → Int32 → Prop) (S : PS) (l0 : Nat) (l1 : Int32) (l3 : Int32) (t0 : Int32) (t1 : Int32) : Prop :=
  g18 S l0 l1 (t1 + t0) (l3 + 2)
def f_X8_leastSides_L18 (post : Int32 → PS → Prop) : Nat → PS → Nat → Int32 → Int32 → Int32 → Prop
  | 0, _, _, _, _, _ => False
  | n + 1, S, l0, l1, l2, l3 =>
  isO S l0 12 (
  f_X8_everyone S l0 fun v2 S1 => (
  if v2 < l3 then
    post l2 S1
  else
    isO S1 l0 12 (
    f_X8_feudOf S1 l0 l3 fun v5 S4 => (
    if v5 = l1 then
      f_X8_leastSides_J41 post (f_X8_leastSides_L18 post n) S4 l0 l1 l3 1 l2
    else
      f_X8_leastSides_J41 post (f_X8_leastSides_L18 post n) S4 l0 l1 l3 0 l2))))
def f_X8_leastSides (S : PS) (a0 : Nat) (post : Int32 → PS → Prop) : Prop :=
  isO S a0 12 (
  f_X8_areTwo S a0 fun v2 S1 => (
  if v2 = 0 then
    post 0 S1
  else
    isO S1 a0 12 (
    f_X8_leastNow S1 a0 fun v5 S4 => (
    f_X8_leastSides_L18 post 4096 S4 a0 v5 0 2))))
abbrev rm_X8_leastSides : Room := { frames := 5, cells := 0, slots := 0, locals := 117 }
set_option maxHeartbeats 4000000 in
set_option maxRecDepth 100000 in
theorem c_X8_leastSides (l : Launch) (D : va_G) (cy : Nat → ClassId) (G : p_GT) (hG : p_ok G) (S : PS) (a0 : Nat) (post : Int32 → PS → Prop) (sz : Nat) (hf : f_X8_leastSides S a0 post) : p_Mi l D cy G S sz yX8_leastSides (Cond.code yX8_leastSides cX8_leastSides 4 (some .int) :: wG) rm_X8_leastSides [.ref a0] 0 0 post := by
  refine q_start hG (Qc := fun A => va_Qi post (p_Post D cy A) A) mf_X8_leastSides (Nat.le_of_ble_eq_true rfl) (own := RX8) rfl ?_
  intro p e s m below meth c A X hr hlk hnm ls hl hH
  have hx := X.1.1
  have hb := X.1.2.1
  replace hl : lv_has ls 4 [(0, .ref a0)] := hl
  obtain ⟨H, hHe⟩ : ∃ H, H = s.heap := ⟨_, rfl⟩
  obtain ⟨locs, hlo⟩ : ∃ locs : List Loc, locs = [] := ⟨_, rfl⟩
  rw [← hHe, ← hlo] at hH
  show W p l e rm_X8_leastSides s m [.ref a0].toArray below meth c s.heap [] 0 0 _ _
  rw [← hHe, ← hlo]
  have hL18 : ∀ (n18 : Nat) (S : PS) (l0 : Nat) (l1 : Int32) (l2 : Int32) (l3 : Int32), f_X8_leastSides_L18 post n18 S l0 l1 l2 l3 → ∀ (H : Heap) (locs : List Loc) (ls : Array Slot), p_H D cy S A s H locs → lv_has ls 4 [(0, .ref l0), (1, .int l1), (2, .int l2), (3, .int l3)] → W p l e rm_X8_leastSides s m [.ref a0].toArray below meth c H locs 0 0 (MQ below (va_Qi post (p_Post D cy A) A) [.ref a0].toArray s 0 0 A) (F0 m 18 ls []) := by
    intro n18
    induction n18 with
    | zero => intro S l0 l1 l2 l3 hf; exact hf.elim
    | succ n18 ih18 =>
      intro S l0 l1 l2 l3 hf H locs ls hH hl
      have hJ41 : ∀ (S : PS) (l0 : Nat) (l1 : Int32) (l3 : Int32) (t0 : Int32) (t1 : Int32), f_X8_leastSides_J41 post (f_X8_leastSides_L18 post n18) S l0 l1 l3 t0 t1 → ∀ (H : Heap) (locs : List Loc) (ls : Array Slot), p_H D cy S A s H locs → lv_has ls 4 [(0, .ref l0), (1, .int l1), (3, .int l3)] → W p l e rm_X8_leastSides s m [.ref a0].toArray below meth c H locs 0 0 (MQ below (va_Qi post (p_Post D cy A) A) [.ref a0].toArray s 0 0 A) (F0 m 41 ls [.int t0, .int t1]) := by
        intro S l0 l1 l3 t0 t1 hf H locs ls hH hl
        refine lv_iadd hx hb dX8_leastSides_41 ?_
        refine lv_istore_n (lv' := [(2, .int (t1 + t0)), (0, .ref l0), (1, .int l1), (3, .int l3)]) hx hb dX8_leastSides_42 rfl hl (by decide) rfl (fun ls hl => ?_)
        refine lv_iinc (v := l3 + 2) (lv' := [(3, .int (l3 + 2)), (2, .int (t1 + t0)), (0, .ref l0), (1, .int l1)]) hx hb dX8_leastSides_43 hl (k := 3) rfl rfl (by decide) rfl (fun ls hl => ?_)
        refine lv_goto (tgt := 18) hx hb dX8_leastSides_46 (by decide) ?_
        exact ih18 S l0 l1 (t1 + t0) (l3 + 2) hf H locs ls hH (lv_sub hl [2, 3, 1, 0] rfl)
      refine lv_iload_n hx hb dX8_leastSides_18 rfl (lv_at hl 3 rfl) ?_
      refine lv_aload_n hx hb dX8_leastSides_19 rfl (lv_at hl 0 rfl) ?_
      obtain ⟨hb1, hb2, hf⟩ := hf
      refine q_backI0 X hH (q_runV [] [.int l3] X hH hl (c_X8_everyone l D cy G X.2.2.2.1 S l0 _ _ hf) mf_X8_everyone mv_X8_everyone tw_1801 ⟨Nat.le_of_ble_eq_true rfl, Nat.le_of_ble_eq_true rfl⟩ hb1 hb2 (T := TX8) (N := 25) rfl rfl (Nat.le_of_ble_eq_true rfl) dX8_leastSides_20 ⟨Nat.le_of_ble_eq_true rfl, Nat.le_of_ble_eq_true rfl⟩) (fun v2 S1 hf H locs hH => ?_)
      refine lv_icmp_gt (tgt := 49) hx hb dX8_leastSides_23 (by decide) (fun c3 => ?_) (fun c3 => ?_)
      · have hf := (if_pos c3).mp hf
        refine lv_iload_n hx hb dX8_leastSides_49 rfl (lv_at hl 2 rfl) ?_
        exact q_retI X hH hr hlk hf (Nat.zero_le _) (Nat.zero_le _) dX8_leastSides_50
      · have hf := (if_neg c3).mp hf
        refine lv_iload_n hx hb dX8_leastSides_26 rfl (lv_at hl 2 rfl) ?_
        refine lv_aload_n hx hb dX8_leastSides_27 rfl (lv_at hl 0 rfl) ?_
        refine lv_iload_n hx hb dX8_leastSides_28 rfl (lv_at hl 3 rfl) ?_
        obtain ⟨hb1, hb2, hf⟩ := hf
        refine q_backI0 X hH (q_runV [.int l3] [.int l2] X hH hl (c_X8_feudOf l D cy G X.2.2.2.1 S1 l0 l3 _ _ hf) mf_X8_feudOf mv_X8_feudOf tw_1797 ⟨Nat.le_of_ble_eq_true rfl, Nat.le_of_ble_eq_true rfl⟩ hb1 hb2 (T := TX8) (N := 25) rfl rfl (Nat.le_of_ble_eq_true rfl) dX8_leastSides_29 ⟨Nat.le_of_ble_eq_true rfl, Nat.le_of_ble_eq_true rfl⟩) (fun v5 S4 hf H locs hH => ?_)
        refine lv_iload_n hx hb dX8_leastSides_32 rfl (lv_at hl 1 rfl) ?_
        refine lv_icmp_ne (tgt := 40) hx hb dX8_leastSides_33 (by decide) (fun c6 => ?_) (fun c6 => ?_)
        · have hf := (if_neg c6).mp hf
          refine lv_iconst (v := 0) hx hb dX8_leastSides_40 (by decide) ?_
          exact hJ41 S4 l0 l1 l3 0 l2 hf H locs ls hH (lv_sub hl [0, 1, 3] rfl)
        · have hf := (if_pos c6).mp hf
          refine lv_iconst (v := 1) hx hb dX8_leastSides_36 (by decide) ?_
          refine lv_goto (tgt := 41) hx hb dX8_leastSides_37 (by decide) ?_
          exact hJ41 S4 l0 l1 l3 1 l2 hf H locs ls hH (lv_sub hl [0, 1, 3] rfl)
  refine lv_aload_n hx hb dX8_leastSides_0 rfl (lv_at hl 0 rfl) ?_
  obtain ⟨hb1, hb2, hf⟩ := hf
  refine q_backI0 X hH (q_runV [] [] X hH hl (c_X8_areTwo l D cy G X.2.2.2.1 S a0 _ _ hf) mf_X8_areTwo mv_X8_areTwo tw_1864 ⟨Nat.le_of_ble_eq_true rfl, Nat.le_of_ble_eq_true rfl⟩ hb1 hb2 (T := TX8) (N := 25) rfl rfl (Nat.le_of_ble_eq_true rfl) dX8_leastSides_1 ⟨Nat.le_of_ble_eq_true rfl, Nat.le_of_ble_eq_true rfl⟩) (fun v2 S1 hf H locs hH => ?_)
  refine lv_if_ne (tgt := 9) hx hb dX8_leastSides_4 (by decide) (fun c3 => ?_) (fun c3 => ?_)
  · have hf := (if_neg c3).mp hf
    refine lv_aload_n hx hb dX8_leastSides_9 rfl (lv_at hl 0 rfl) ?_
    obtain ⟨hb1, hb2, hf⟩ := hf
    refine q_backI0 X hH (q_runV [] [] X hH hl (c_X8_leastNow l D cy G X.2.2.2.1 S1 a0 _ _ hf) mf_X8_leastNow mv_X8_leastNow tw_1872 ⟨Nat.le_of_ble_eq_true rfl, Nat.le_of_ble_eq_true rfl⟩ hb1 hb2 (T := TX8) (N := 25) rfl rfl (Nat.le_of_ble_eq_true rfl) dX8_leastSides_10 ⟨Nat.le_of_ble_eq_true rfl, Nat.le_of_ble_eq_true rfl⟩) (fun v5 S4 hf H locs hH => ?_)
    refine lv_istore_n (lv' := [(1, .int v5), (0, .ref a0)]) hx hb dX8_leastSides_13 rfl hl (by decide) rfl (fun ls hl => ?_)
    refine lv_iconst (v := 0) hx hb dX8_leastSides_14 (by decide) ?_
    refine lv_istore_n (lv' := [(2, .int 0), (1, .int v5), (0, .ref a0)]) hx hb dX8_leastSides_15 rfl hl (by decide) rfl (fun ls hl => ?_)
    refine lv_iconst (v := 2) hx hb dX8_leastSides_16 (by decide) ?_
    refine lv_istore_n (lv' := [(3, .int 2), (2, .int 0), (1, .int v5), (0, .ref a0)]) hx hb dX8_leastSides_17 rfl hl (by decide) rfl (fun ls hl => ?_)
    exact hL18 4096 S4 a0 v5 0 2 hf H locs ls hH (lv_sub hl [3, 2, 1, 0] rfl)
  · have hf := (if_pos c3).mp hf
    refine lv_iconst (v := 0) hx hb dX8_leastSides_7 (by decide) ?_
    exact q_retI X hH hr hlk hf (Nat.zero_le _) (Nat.zero_le _) dX8_leastSides_8
-- X8_betweenOf
def f_X8_betweenOf_J58 (post : Int32 → PS → Prop) (g6 : PS → Nat → Int32 → Int32 → Int32 → Int32 → Prop) (S : PS) (l0 : Nat) (l1 : Int32) (l2 : Int32) (l4 : Int32) (t0 : Int32) : Prop :=
  g6 S l0 l1 l2 t0 (l4 + 1)
def f_X8_betweenOf_J44 (post : Int32 → PS → Prop) (g6 : PS → Nat → Int32 → Int32 → Int32 → Int32 → Prop) (S : PS) (l0 : Nat) (l1 : Int32) (l2 : Int32) (l3 : Int32) (l4 : Int32) (t0 : Int32) : Prop :=
  if l3 ≤ t0 then
    f_X8_betweenOf_J58 post g6 S l0 l1 l2 l4 l3
  else
    f_X8_betweenOf_J58 post g6 S l0 l1 l2 l4 t0
def f_X8_betweenOf_J42 (post : Int32 → PS → Prop) (g6 : PS → Nat → Int32 → Int32 → Int32 → Int32 → Prop) (S : PS) (l0 : Nat) (l1 : Int32) (l2 : Int32) (l3 : Int32) (l4 : Int32) : Prop :=
  f_X8_betweenOf_J44 post g6 S l0 l1 l2 l3 l4 100000000
def f_X8_betweenOf_L6 (post : Int32 → PS → Prop) : Nat → PS → Nat → Int32 → Int32 → Int32 → Int32 → Prop
  | 0, _, _, _, _, _, _ => False
  | n + 1, S, l0, l1, l2, l3, l4 =>
  isO S l0 12 (
  f_X8_everyone S l0 fun v2 S1 => (
  if v2 < l4 then
    post l3 S1
  else
    f_X8_holds S1 l4 l1 fun v5 S4 => (
    if v5 = 0 then
      f_X8_betweenOf_J42 post (f_X8_betweenOf_L6 post n) S4 l0 l1 l2 l3 l4
    else
      f_X8_holds S4 l4 l2 fun v8 S7 => (
      if v8 = 0 then
        isO S7 l0 12 (
        f_X8_feudOf S7 l0 l4 fun v11 S10 => (
        f_X8_betweenOf_J44 post (f_X8_betweenOf_L6 post n) S10 l0 l1 l2 l3 l4 v11))
      else
        f_X8_betweenOf_J42 post (f_X8_betweenOf_L6 post n) S7 l0 l1 l2 l3 l4))))
def f_X8_betweenOf (S : PS) (a0 : Nat) (a1 : Int32) (a2 : Int32) (post : Int32 → PS → Prop) : Prop :=
  f_X8_betweenOf_L6 post 4096 S a0 a1 a2 100000000 0
abbrev rm_X8_betweenOf : Room := { frames := 3, cells := 0, slots := 0, locals := 68 }
set_option maxHeartbeats 4000000 in
set_option maxRecDepth 100000 in
theorem c_X8_betweenOf (l : Launch) (D : va_G) (cy : Nat → ClassId) (G : p_GT) (hG : p_ok G) (S : PS) (a0 : Nat) (a1 : Int32) (a2 : Int32) (post : Int32 → PS → Prop) (sz : Nat) (hf : f_X8_betweenOf S a0 a1 a2 post) : p_Mi l D cy G S sz yX8_betweenOf (Cond.code yX8_betweenOf cX8_betweenOf 6 (some .int) :: wG) rm_X8_betweenOf [.ref a0, .int a1, .int a2] 0 0 post := by
  refine q_start hG (Qc := fun A => va_Qi post (p_Post D cy A) A) mf_X8_betweenOf (Nat.le_of_ble_eq_true rfl) (own := RX8) rfl ?_
  intro p e s m below meth c A X hr hlk hnm ls hl hH
  have hx := X.1.1
  have hb := X.1.2.1
  replace hl : lv_has ls 6 [(0, .ref a0), (1, .int a1), (2, .int a2)] := hl
  obtain ⟨H, hHe⟩ : ∃ H, H = s.heap := ⟨_, rfl⟩
  obtain ⟨locs, hlo⟩ : ∃ locs : List Loc, locs = [] := ⟨_, rfl⟩
  rw [← hHe, ← hlo] at hH
  show W p l e rm_X8_betweenOf s m [.ref a0, .int a1, .int a2].toArray below meth c s.heap [] 0 0 _ _
  rw [← hHe, ← hlo]
  have hL6 : ∀ (n6 : Nat) (S : PS) (l0 : Nat) (l1 : Int32) (l2 : Int32) (l3 : Int32) (l4 : Int32), f_X8_betweenOf_L6 post n6 S l0 l1 l2 l3 l4 → ∀ (H : Heap) (locs : List Loc) (ls : Array Slot), p_H D cy S A s H locs → lv_has ls 6 [(0, .ref l0), (1, .int l1), (2, .int l2), (3, .int l3), (4, .int l4)] → W p l e rm_X8_betweenOf s m [.ref a0, .int a1, .int a2].toArray below meth c H locs 0 0 (MQ below (va_Qi post (p_Post D cy A) A) [.ref a0, .int a1, .int a2].toArray s 0 0 A) (F0 m 6 ls []) := by
    intro n6
    induction n6 with
    | zero => intro S l0 l1 l2 l3 l4 hf; exact hf.elim
    | succ n6 ih6 =>
      intro S l0 l1 l2 l3 l4 hf H locs ls hH hl
      have hJ44 : ∀ (S : PS) (l0 : Nat) (l1 : Int32) (l2 : Int32) (l3 : Int32) (l4 : Int32) (t0 : Int32), f_X8_betweenOf_J44 post (f_X8_betweenOf_L6 post n6) S l0 l1 l2 l3 l4 t0 → ∀ (H : Heap) (locs : List Loc) (ls : Array Slot), p_H D cy S A s H locs → lv_has ls 6 [(0, .ref l0), (1, .int l1), (2, .int l2), (3, .int l3), (4, .int l4)] → W p l e rm_X8_betweenOf s m [.ref a0, .int a1, .int a2].toArray below meth c H locs 0 0 (MQ below (va_Qi post (p_Post D cy A) A) [.ref a0, .int a1, .int a2].toArray s 0 0 A) (F0 m 44 ls [.int t0]) := by
        intro S l0 l1 l2 l3 l4 t0 hf H locs ls hH hl
        have hJ58 : ∀ (S : PS) (l0 : Nat) (l1 : Int32) (l2 : Int32) (l4 : Int32) (t0 : Int32), f_X8_betweenOf_J58 post (f_X8_betweenOf_L6 post n6) S l0 l1 l2 l4 t0 → ∀ (H : Heap) (locs : List Loc) (ls : Array Slot), p_H D cy S A s H locs → lv_has ls 6 [(0, .ref l0), (1, .int l1), (2, .int l2), (4, .int l4)] → W p l e rm_X8_betweenOf s m [.ref a0, .int a1, .int a2].toArray below meth c H locs 0 0 (MQ below (va_Qi post (p_Post D cy A) A) [.ref a0, .int a1, .int a2].toArray s 0 0 A) (F0 m 58 ls [.int t0]) := by
          intro S l0 l1 l2 l4 t0 hf H locs ls hH hl
          refine lv_istore_n (lv' := [(3, .int t0), (0, .ref l0), (1, .int l1), (2, .int l2), (4, .int l4)]) hx hb dX8_betweenOf_58 rfl hl (by decide) rfl (fun ls hl => ?_)
          refine lv_iinc (v := l4 + 1) (lv' := [(4, .int (l4 + 1)), (3, .int t0), (0, .ref l0), (1, .int l1), (2, .int l2)]) hx hb dX8_betweenOf_59 hl (k := 4) rfl rfl (by decide) rfl (fun ls hl => ?_)
          refine lv_goto (tgt := 6) hx hb dX8_betweenOf_62 (by decide) ?_
          exact ih6 S l0 l1 l2 t0 (l4 + 1) hf H locs ls hH (lv_sub hl [2, 3, 4, 1, 0] rfl)
        refine lv_istore (lv' := [(5, .int t0), (0, .ref l0), (1, .int l1), (2, .int l2), (3, .int l3), (4, .int l4)]) hx hb dX8_betweenOf_44 hl (by decide) rfl (fun ls hl => ?_)
        refine lv_iload hx hb dX8_betweenOf_46 (lv_at hl 0 rfl) ?_
        refine lv_iload_n hx hb dX8_betweenOf_48 rfl (lv_at hl 4 rfl) ?_
        refine lv_icmp_ge (tgt := 57) hx hb dX8_betweenOf_49 (by decide) (fun c1 => ?_) (fun c1 => ?_)
        · have hf := (if_pos c1).mp hf
          refine lv_iload_n hx hb dX8_betweenOf_57 rfl (lv_at hl 4 rfl) ?_
          exact hJ58 S l0 l1 l2 l4 l3 hf H locs ls hH (lv_sub hl [1, 2, 3, 5] rfl)
        · have hf := (if_neg c1).mp hf
          refine lv_iload hx hb dX8_betweenOf_52 (lv_at hl 0 rfl) ?_
          refine lv_goto (tgt := 58) hx hb dX8_betweenOf_54 (by decide) ?_
          exact hJ58 S l0 l1 l2 l4 t0 hf H locs ls hH (lv_sub hl [1, 2, 3, 5] rfl)
      have hJ42 : ∀ (S : PS) (l0 : Nat) (l1 : Int32) (l2 : Int32) (l3 : Int32) (l4 : Int32), f_X8_betweenOf_J42 post (f_X8_betweenOf_L6 post n6) S l0 l1 l2 l3 l4 → ∀ (H : Heap) (locs : List Loc) (ls : Array Slot), p_H D cy S A s H locs → lv_has ls 6 [(0, .ref l0), (1, .int l1), (2, .int l2), (3, .int l3), (4, .int l4)] → W p l e rm_X8_betweenOf s m [.ref a0, .int a1, .int a2].toArray below meth c H locs 0 0 (MQ below (va_Qi post (p_Post D cy A) A) [.ref a0, .int a1, .int a2].toArray s 0 0 A) (F0 m 42 ls []) := by
        intro S l0 l1 l2 l3 l4 hf H locs ls hH hl
        refine lv_ldc (v := 100000000) hx hb X.1.2.2.2.1 (X.1.2.2.2.2 _ tw_1824) dX8_betweenOf_42 ?_
        exact hJ44 S l0 l1 l2 l3 l4 100000000 hf H locs ls hH hl
      refine lv_iload hx hb dX8_betweenOf_6 (lv_at hl 4 rfl) ?_
      refine lv_aload_n hx hb dX8_betweenOf_8 rfl (lv_at hl 0 rfl) ?_
      obtain ⟨hb1, hb2, hf⟩ := hf
      refine q_backI0 X hH (q_runV [] [.int l4] X hH hl (c_X8_everyone l D cy G X.2.2.2.1 S l0 _ _ hf) mf_X8_everyone mv_X8_everyone tw_1801 ⟨Nat.le_of_ble_eq_true rfl, Nat.le_of_ble_eq_true rfl⟩ hb1 hb2 (T := TX8) (N := 25) rfl rfl (Nat.le_of_ble_eq_true rfl) dX8_betweenOf_9 ⟨Nat.le_of_ble_eq_true rfl, Nat.le_of_ble_eq_true rfl⟩) (fun v2 S1 hf H locs hH => ?_)
      refine lv_icmp_gt (tgt := 65) hx hb dX8_betweenOf_12 (by decide) (fun c3 => ?_) (fun c3 => ?_)
      · have hf := (if_pos c3).mp hf
        refine lv_iload_n hx hb dX8_betweenOf_65 rfl (lv_at hl 3 rfl) ?_
        exact q_retI X hH hr hlk hf (Nat.zero_le _) (Nat.zero_le _) dX8_betweenOf_66
      · have hf := (if_neg c3).mp hf
        refine lv_iload hx hb dX8_betweenOf_15 (lv_at hl 4 rfl) ?_
        refine lv_iload_n hx hb dX8_betweenOf_17 rfl (lv_at hl 1 rfl) ?_
        refine q_backI0 X hH (q_runS [.int l4, .int l1] [] X hH hl (c_X8_holds l D cy G X.2.2.2.1 S1 l4 l1 _ _ hf) mf_X8_holds tw_1810 tw_1809 ⟨Nat.le_of_ble_eq_true rfl, Nat.le_of_ble_eq_true rfl⟩ rfl (Nat.le_of_ble_eq_true rfl) dX8_betweenOf_18 ⟨Nat.le_of_ble_eq_true rfl, Nat.le_of_ble_eq_true rfl⟩) (fun v5 S4 hf H locs hH => ?_)
        refine lv_if_eq (tgt := 42) hx hb dX8_betweenOf_21 (by decide) (fun c6 => ?_) (fun c6 => ?_)
        · have hf := (if_pos c6).mp hf
          exact hJ42 S4 l0 l1 l2 l3 l4 hf H locs ls hH hl
        · have hf := (if_neg c6).mp hf
          refine lv_iload hx hb dX8_betweenOf_24 (lv_at hl 4 rfl) ?_
          refine lv_iload_n hx hb dX8_betweenOf_26 rfl (lv_at hl 2 rfl) ?_
          refine q_backI0 X hH (q_runS [.int l4, .int l2] [] X hH hl (c_X8_holds l D cy G X.2.2.2.1 S4 l4 l2 _ _ hf) mf_X8_holds tw_1810 tw_1809 ⟨Nat.le_of_ble_eq_true rfl, Nat.le_of_ble_eq_true rfl⟩ rfl (Nat.le_of_ble_eq_true rfl) dX8_betweenOf_27 ⟨Nat.le_of_ble_eq_true rfl, Nat.le_of_ble_eq_true rfl⟩) (fun v8 S7 hf H locs hH => ?_)
          refine lv_if_ne (tgt := 42) hx hb dX8_betweenOf_30 (by decide) (fun c9 => ?_) (fun c9 => ?_)
          · have hf := (if_neg c9).mp hf
            exact hJ42 S7 l0 l1 l2 l3 l4 hf H locs ls hH hl
          · have hf := (if_pos c9).mp hf
            refine lv_aload_n hx hb dX8_betweenOf_33 rfl (lv_at hl 0 rfl) ?_
            refine lv_iload hx hb dX8_betweenOf_34 (lv_at hl 4 rfl) ?_
            obtain ⟨hb1, hb2, hf⟩ := hf
            refine q_backI0 X hH (q_runV [.int l4] [] X hH hl (c_X8_feudOf l D cy G X.2.2.2.1 S7 l0 l4 _ _ hf) mf_X8_feudOf mv_X8_feudOf tw_1797 ⟨Nat.le_of_ble_eq_true rfl, Nat.le_of_ble_eq_true rfl⟩ hb1 hb2 (T := TX8) (N := 25) rfl rfl (Nat.le_of_ble_eq_true rfl) dX8_betweenOf_36 ⟨Nat.le_of_ble_eq_true rfl, Nat.le_of_ble_eq_true rfl⟩) (fun v11 S10 hf H locs hH => ?_)
            refine lv_goto (tgt := 44) hx hb dX8_betweenOf_39 (by decide) ?_
            exact hJ44 S10 l0 l1 l2 l3 l4 v11 hf H locs ls hH hl
  refine lv_ldc (v := 100000000) hx hb X.1.2.2.2.1 (X.1.2.2.2.2 _ tw_1824) dX8_betweenOf_0 ?_
  refine lv_istore_n (lv' := [(3, .int 100000000), (0, .ref a0), (1, .int a1), (2, .int a2)]) hx hb dX8_betweenOf_2 rfl hl (by decide) rfl (fun ls hl => ?_)
  refine lv_iconst (v := 0) hx hb dX8_betweenOf_3 (by decide) ?_
  refine lv_istore (lv' := [(4, .int 0), (3, .int 100000000), (0, .ref a0), (1, .int a1), (2, .int a2)]) hx hb dX8_betweenOf_4 hl (by decide) rfl (fun ls hl => ?_)
  exact hL6 4096 S a0 a1 a2 100000000 0 hf H locs ls hH (lv_sub hl [2, 3, 4, 1, 0] rfl)
-- X8_between
def f_X8_between_J31 (post : Int32 → PS → Prop) (S : PS) (l0 : Nat) (l1 : Int32) (l2 : Int32) (t0 : Int32) (t1 : Nat) : Prop :=
  pV S t1 12 0 (.int t0) fun S1 => (
  gI S1 l0 12 0 fun v2 => (
  if v2 = 0 then
    isO S1 l0 12 (
    f_X8_betweenOf S1 l0 l1 l2 fun v5 S4 => (
    post v5 S4))
  else
    post 0 S1))
def f_X8_between_J17 (post : Int32 → PS → Prop) (S : PS) (l0 : Nat) (l1 : Int32) (l2 : Int32) (t0 : Nat) : Prop :=
  f_X8_between_J31 post S l0 l1 l2 1 t0
def f_X8_between (S : PS) (a0 : Nat) (a1 : Int32) (a2 : Int32) (post : Int32 → PS → Prop) : Prop :=
  isO S a0 12 (
  f_X8_isHouse S a0 a1 fun v2 S1 => (
  if v2 = 0 then
    f_X8_between_J17 post S1 a0 a1 a2 a0
  else
    isO S1 a0 12 (
    f_X8_isHouse S1 a0 a2 fun v5 S4 => (
    if v5 = 0 then
      f_X8_between_J17 post S4 a0 a1 a2 a0
    else
      if a1 = a2 then
        f_X8_between_J31 post S4 a0 a1 a2 2 a0
      else
        f_X8_between_J31 post S4 a0 a1 a2 0 a0))))
abbrev rm_X8_between : Room := { frames := 4, cells := 0, slots := 0, locals := 93 }
set_option maxHeartbeats 4000000 in
set_option maxRecDepth 100000 in
theorem c_X8_between (l : Launch) (D : va_G) (cy : Nat → ClassId) (G : p_GT) (hG : p_ok G) (S : PS) (a0 : Nat) (a1 : Int32) (a2 : Int32) (post : Int32 → PS → Prop) (sz : Nat) (hf : f_X8_between S a0 a1 a2 post) : p_Mi l D cy G S sz yX8_between (Cond.code yX8_between cX8_between 3 (some .int) :: wG) rm_X8_between [.ref a0, .int a1, .int a2] 0 0 post := by
  refine q_start hG (Qc := fun A => va_Qi post (p_Post D cy A) A) mf_X8_between (Nat.le_of_ble_eq_true rfl) (own := RX8) rfl ?_
  intro p e s m below meth c A X hr hlk hnm ls hl hH
  have hx := X.1.1
  have hb := X.1.2.1
  replace hl : lv_has ls 3 [(0, .ref a0), (1, .int a1), (2, .int a2)] := hl
  obtain ⟨H, hHe⟩ : ∃ H, H = s.heap := ⟨_, rfl⟩
  obtain ⟨locs, hlo⟩ : ∃ locs : List Loc, locs = [] := ⟨_, rfl⟩
  rw [← hHe, ← hlo] at hH
  show W p l e rm_X8_between s m [.ref a0, .int a1, .int a2].toArray below meth c s.heap [] 0 0 _ _
  rw [← hHe, ← hlo]
  have hJ31 : ∀ (S : PS) (l0 : Nat) (l1 : Int32) (l2 : Int32) (t0 : Int32) (t1 : Nat), f_X8_between_J31 post S l0 l1 l2 t0 t1 → ∀ (H : Heap) (locs : List Loc) (ls : Array Slot), p_H D cy S A s H locs → lv_has ls 3 [(0, .ref l0), (1, .int l1), (2, .int l2)] → W p l e rm_X8_between s m [.ref a0, .int a1, .int a2].toArray below meth c H locs 0 0 (MQ below (va_Qi post (p_Post D cy A) A) [.ref a0, .int a1, .int a2].toArray s 0 0 A) (F0 m 31 ls [.int t0, .ref t1]) := by
    intro S l0 l1 l2 t0 t1 hf H locs ls hH hl
    refine q_putV (T := TX8) (N := 25) (ty0 := tyX8) (ty := tyX8 0) X hH hf iw_X8 tyX8_ok nmX8 rfl (by decide) tw_1609 (fun _ h => h) rfl (tyX8_ok 0 (by decide)) rfl rfl dX8_between_31 (fun S1 hf H locs hH => ?_)
    refine lv_aload_n hx hb dX8_between_34 rfl (lv_at hl 0 rfl) ?_
    refine q_getI (T := TX8) (N := 25) X hH hf iw_X8 rfl (by decide) tw_1609 (fun _ h => h) dX8_between_35 (fun v2 hf => ?_)
    refine lv_if_ne (tgt := 50) hx hb dX8_between_38 (by decide) (fun c3 => ?_) (fun c3 => ?_)
    · have hf := (if_neg c3).mp hf
      refine lv_iconst (v := 0) hx hb dX8_between_50 (by decide) ?_
      exact q_retI X hH hr hlk hf (Nat.zero_le _) (Nat.zero_le _) dX8_between_51
    · have hf := (if_pos c3).mp hf
      refine lv_aload_n hx hb dX8_between_41 rfl (lv_at hl 0 rfl) ?_
      refine lv_iload_n hx hb dX8_between_42 rfl (lv_at hl 1 rfl) ?_
      refine lv_iload_n hx hb dX8_between_43 rfl (lv_at hl 2 rfl) ?_
      obtain ⟨hb1, hb2, hf⟩ := hf
      refine q_backI0 X hH (q_runV [.int l1, .int l2] [] X hH hl (c_X8_betweenOf l D cy G X.2.2.2.1 S1 l0 l1 l2 _ _ hf) mf_X8_betweenOf mv_X8_betweenOf tw_1893 ⟨Nat.le_of_ble_eq_true rfl, Nat.le_of_ble_eq_true rfl⟩ hb1 hb2 (T := TX8) (N := 25) rfl rfl (Nat.le_of_ble_eq_true rfl) dX8_between_44 ⟨Nat.le_of_ble_eq_true rfl, Nat.le_of_ble_eq_true rfl⟩) (fun v5 S4 hf H locs hH => ?_)
      refine lv_goto (tgt := 51) hx hb dX8_between_47 (by decide) ?_
      exact q_retI X hH hr hlk hf (Nat.zero_le _) (Nat.zero_le _) dX8_between_51
  have hJ17 : ∀ (S : PS) (l0 : Nat) (l1 : Int32) (l2 : Int32) (t0 : Nat), f_X8_between_J17 post S l0 l1 l2 t0 → ∀ (H : Heap) (locs : List Loc) (ls : Array Slot), p_H D cy S A s H locs → lv_has ls 3 [(0, .ref l0), (1, .int l1), (2, .int l2)] → W p l e rm_X8_between s m [.ref a0, .int a1, .int a2].toArray below meth c H locs 0 0 (MQ below (va_Qi post (p_Post D cy A) A) [.ref a0, .int a1, .int a2].toArray s 0 0 A) (F0 m 17 ls [.ref t0]) := by
    intro S l0 l1 l2 t0 hf H locs ls hH hl
    refine lv_iconst (v := 1) hx hb dX8_between_17 (by decide) ?_
    refine lv_goto (tgt := 31) hx hb dX8_between_18 (by decide) ?_
    exact hJ31 S l0 l1 l2 1 t0 hf H locs ls hH hl
  refine lv_aload_n hx hb dX8_between_0 rfl (lv_at hl 0 rfl) ?_
  refine lv_aload_n hx hb dX8_between_1 rfl (lv_at hl 0 rfl) ?_
  refine lv_iload_n hx hb dX8_between_2 rfl (lv_at hl 1 rfl) ?_
  obtain ⟨hb1, hb2, hf⟩ := hf
  refine q_backI0 X hH (q_runV [.int a1] [.ref a0] X hH hl (c_X8_isHouse l D cy G X.2.2.2.1 S a0 a1 _ _ hf) mf_X8_isHouse mv_X8_isHouse tw_1737 ⟨Nat.le_of_ble_eq_true rfl, Nat.le_of_ble_eq_true rfl⟩ hb1 hb2 (T := TX8) (N := 25) rfl rfl (Nat.le_of_ble_eq_true rfl) dX8_between_3 ⟨Nat.le_of_ble_eq_true rfl, Nat.le_of_ble_eq_true rfl⟩) (fun v2 S1 hf H locs hH => ?_)
  refine lv_if_eq (tgt := 17) hx hb dX8_between_6 (by decide) (fun c3 => ?_) (fun c3 => ?_)
  · have hf := (if_pos c3).mp hf
    exact hJ17 S1 a0 a1 a2 a0 hf H locs ls hH hl
  · have hf := (if_neg c3).mp hf
    refine lv_aload_n hx hb dX8_between_9 rfl (lv_at hl 0 rfl) ?_
    refine lv_iload_n hx hb dX8_between_10 rfl (lv_at hl 2 rfl) ?_
    obtain ⟨hb1, hb2, hf⟩ := hf
    refine q_backI0 X hH (q_runV [.int a2] [.ref a0] X hH hl (c_X8_isHouse l D cy G X.2.2.2.1 S1 a0 a2 _ _ hf) mf_X8_isHouse mv_X8_isHouse tw_1737 ⟨Nat.le_of_ble_eq_true rfl, Nat.le_of_ble_eq_true rfl⟩ hb1 hb2 (T := TX8) (N := 25) rfl rfl (Nat.le_of_ble_eq_true rfl) dX8_between_11 ⟨Nat.le_of_ble_eq_true rfl, Nat.le_of_ble_eq_true rfl⟩) (fun v5 S4 hf H locs hH => ?_)
    refine lv_if_ne (tgt := 21) hx hb dX8_between_14 (by decide) (fun c6 => ?_) (fun c6 => ?_)
    · have hf := (if_neg c6).mp hf
      refine lv_iload_n hx hb dX8_between_21 rfl (lv_at hl 1 rfl) ?_
      refine lv_iload_n hx hb dX8_between_22 rfl (lv_at hl 2 rfl) ?_
      refine lv_icmp_ne (tgt := 30) hx hb dX8_between_23 (by decide) (fun c7 => ?_) (fun c7 => ?_)
      · have hf := (if_neg c7).mp hf
        refine lv_iconst (v := 0) hx hb dX8_between_30 (by decide) ?_
        exact hJ31 S4 a0 a1 a2 0 a0 hf H locs ls hH hl
      · have hf := (if_pos c7).mp hf
        refine lv_iconst (v := 2) hx hb dX8_between_26 (by decide) ?_
        refine lv_goto (tgt := 31) hx hb dX8_between_27 (by decide) ?_
        exact hJ31 S4 a0 a1 a2 2 a0 hf H locs ls hH hl
    · have hf := (if_pos c6).mp hf
      exact hJ17 S4 a0 a1 a2 a0 hf H locs ls hH hl
-- X8_betweenAgain
def f_X8_betweenAgain (S : PS) (a0 : Nat) (a1 : Int32) (a2 : Int32) (post : Int32 → PS → Prop) : Prop :=
  isO S a0 12 (
  f_X8_between S a0 a1 a2 fun v2 S1 => (
  post v2 S1))
abbrev rm_X8_betweenAgain : Room := { frames := 5, cells := 0, slots := 0, locals := 115 }
set_option maxHeartbeats 4000000 in
set_option maxRecDepth 100000 in
theorem c_X8_betweenAgain (l : Launch) (D : va_G) (cy : Nat → ClassId) (G : p_GT) (hG : p_ok G) (S : PS) (a0 : Nat) (a1 : Int32) (a2 : Int32) (post : Int32 → PS → Prop) (sz : Nat) (hf : f_X8_betweenAgain S a0 a1 a2 post) : p_Mi l D cy G S sz yX8_betweenAgain (Cond.code yX8_betweenAgain cX8_betweenAgain 3 (some .int) :: wG) rm_X8_betweenAgain [.ref a0, .int a1, .int a2] 0 0 post := by
  refine q_start hG (Qc := fun A => va_Qi post (p_Post D cy A) A) mf_X8_betweenAgain (Nat.le_of_ble_eq_true rfl) (own := RX8) rfl ?_
  intro p e s m below meth c A X hr hlk hnm ls hl hH
  have hx := X.1.1
  have hb := X.1.2.1
  replace hl : lv_has ls 3 [(0, .ref a0), (1, .int a1), (2, .int a2)] := hl
  obtain ⟨H, hHe⟩ : ∃ H, H = s.heap := ⟨_, rfl⟩
  obtain ⟨locs, hlo⟩ : ∃ locs : List Loc, locs = [] := ⟨_, rfl⟩
  rw [← hHe, ← hlo] at hH
  show W p l e rm_X8_betweenAgain s m [.ref a0, .int a1, .int a2].toArray below meth c s.heap [] 0 0 _ _
  rw [← hHe, ← hlo]
  refine lv_aload_n hx hb dX8_betweenAgain_0 rfl (lv_at hl 0 rfl) ?_
  refine lv_iload_n hx hb dX8_betweenAgain_1 rfl (lv_at hl 1 rfl) ?_
  refine lv_iload_n hx hb dX8_betweenAgain_2 rfl (lv_at hl 2 rfl) ?_
  obtain ⟨hb1, hb2, hf⟩ := hf
  refine q_backI0 X hH (q_runV [.int a1, .int a2] [] X hH hl (c_X8_between l D cy G X.2.2.2.1 S a0 a1 a2 _ _ hf) mf_X8_between mv_X8_between tw_1901 ⟨Nat.le_of_ble_eq_true rfl, Nat.le_of_ble_eq_true rfl⟩ hb1 hb2 (T := TX8) (N := 25) rfl rfl (Nat.le_of_ble_eq_true rfl) dX8_betweenAgain_3 ⟨Nat.le_of_ble_eq_true rfl, Nat.le_of_ble_eq_true rfl⟩) (fun v2 S1 hf H locs hH => ?_)
  exact q_retI X hH hr hlk hf (Nat.zero_le _) (Nat.zero_le _) dX8_betweenAgain_6
-- X8_weight
def f_X8_weight_J22 (post : Int32 → PS → Prop) (S : PS) (l0 : Nat) (l1 : Int32) (l2 : Int32) (t0 : Int32) (t1 : Nat) : Prop :=
  isO S t1 12 (
  f_X8_isThere S t1 t0 fun v2 S1 => (
  if v2 = 0 then
    post 0 S1
  else
    isO S1 l0 12 (
    f_X8_w S1 l0 l1 l2 fun v5 S4 => (
    post v5 S4))))
def f_X8_weight_J21 (post : Int32 → PS → Prop) (S : PS) (l0 : Nat) (l1 : Int32) (l2 : Int32) (t0 : Nat) : Prop :=
  f_X8_weight_J22 post S l0 l1 l2 0 t0
def f_X8_weight (S : PS) (a0 : Nat) (a1 : Int32) (a2 : Int32) (post : Int32 → PS → Prop) : Prop :=
  isO S a0 12 (
  f_X8_isHouse S a0 a1 fun v2 S1 => (
  if v2 = 0 then
    f_X8_weight_J21 post S1 a0 a1 a2 a0
  else
    isO S1 a0 12 (
    f_X8_isHouse S1 a0 a2 fun v5 S4 => (
    if v5 = 0 then
      f_X8_weight_J21 post S4 a0 a1 a2 a0
    else
      f_X8_weight_J22 post S4 a0 a1 a2 1 a0))))
abbrev rm_X8_weight : Room := { frames := 2, cells := 0, slots := 0, locals := 43 }
set_option maxHeartbeats 4000000 in
set_option maxRecDepth 100000 in
theorem c_X8_weight (l : Launch) (D : va_G) (cy : Nat → ClassId) (G : p_GT) (hG : p_ok G) (S : PS) (a0 : Nat) (a1 : Int32) (a2 : Int32) (post : Int32 → PS → Prop) (sz : Nat) (hf : f_X8_weight S a0 a1 a2 post) : p_Mi l D cy G S sz yX8_weight (Cond.code yX8_weight cX8_weight 3 (some .int) :: wG) rm_X8_weight [.ref a0, .int a1, .int a2] 0 0 post := by
  refine q_start hG (Qc := fun A => va_Qi post (p_Post D cy A) A) mf_X8_weight (Nat.le_of_ble_eq_true rfl) (own := RX8) rfl ?_
  intro p e s m below meth c A X hr hlk hnm ls hl hH
  have hx := X.1.1
  have hb := X.1.2.1
  replace hl : lv_has ls 3 [(0, .ref a0), (1, .int a1), (2, .int a2)] := hl
  obtain ⟨H, hHe⟩ : ∃ H, H = s.heap := ⟨_, rfl⟩
  obtain ⟨locs, hlo⟩ : ∃ locs : List Loc, locs = [] := ⟨_, rfl⟩
  rw [← hHe, ← hlo] at hH
  show W p l e rm_X8_weight s m [.ref a0, .int a1, .int a2].toArray below meth c s.heap [] 0 0 _ _
  rw [← hHe, ← hlo]
  have hJ22 : ∀ (S : PS) (l0 : Nat) (l1 : Int32) (l2 : Int32) (t0 : Int32) (t1 : Nat), f_X8_weight_J22 post S l0 l1 l2 t0 t1 → ∀ (H : Heap) (locs : List Loc) (ls : Array Slot), p_H D cy S A s H locs → lv_has ls 3 [(0, .ref l0), (1, .int l1), (2, .int l2)] → W p l e rm_X8_weight s m [.ref a0, .int a1, .int a2].toArray below meth c H locs 0 0 (MQ below (va_Qi post (p_Post D cy A) A) [.ref a0, .int a1, .int a2].toArray s 0 0 A) (F0 m 22 ls [.int t0, .ref t1]) := by
    intro S l0 l1 l2 t0 t1 hf H locs ls hH hl
    obtain ⟨hb1, hb2, hf⟩ := hf
    refine q_backI0 X hH (q_runV [.int t0] [] X hH hl (c_X8_isThere l D cy G X.2.2.2.1 S t1 t0 _ _ hf) mf_X8_isThere mv_X8_isThere tw_1868 ⟨Nat.le_of_ble_eq_true rfl, Nat.le_of_ble_eq_true rfl⟩ hb1 hb2 (T := TX8) (N := 25) rfl rfl (Nat.le_of_ble_eq_true rfl) dX8_weight_22 ⟨Nat.le_of_ble_eq_true rfl, Nat.le_of_ble_eq_true rfl⟩) (fun v2 S1 hf H locs hH => ?_)
    refine lv_if_eq (tgt := 37) hx hb dX8_weight_25 (by decide) (fun c3 => ?_) (fun c3 => ?_)
    · have hf := (if_pos c3).mp hf
      refine lv_iconst (v := 0) hx hb dX8_weight_37 (by decide) ?_
      exact q_retI X hH hr hlk hf (Nat.zero_le _) (Nat.zero_le _) dX8_weight_38
    · have hf := (if_neg c3).mp hf
      refine lv_aload_n hx hb dX8_weight_28 rfl (lv_at hl 0 rfl) ?_
      refine lv_iload_n hx hb dX8_weight_29 rfl (lv_at hl 1 rfl) ?_
      refine lv_iload_n hx hb dX8_weight_30 rfl (lv_at hl 2 rfl) ?_
      obtain ⟨hb1, hb2, hf⟩ := hf
      refine q_backI0 X hH (q_runV [.int l1, .int l2] [] X hH hl (c_X8_w l D cy G X.2.2.2.1 S1 l0 l1 l2 _ _ hf) mf_X8_w mv_X8_w tw_1745 ⟨Nat.le_of_ble_eq_true rfl, Nat.le_of_ble_eq_true rfl⟩ hb1 hb2 (T := TX8) (N := 25) rfl rfl (Nat.le_of_ble_eq_true rfl) dX8_weight_31 ⟨Nat.le_of_ble_eq_true rfl, Nat.le_of_ble_eq_true rfl⟩) (fun v5 S4 hf H locs hH => ?_)
      refine lv_goto (tgt := 38) hx hb dX8_weight_34 (by decide) ?_
      exact q_retI X hH hr hlk hf (Nat.zero_le _) (Nat.zero_le _) dX8_weight_38
  have hJ21 : ∀ (S : PS) (l0 : Nat) (l1 : Int32) (l2 : Int32) (t0 : Nat), f_X8_weight_J21 post S l0 l1 l2 t0 → ∀ (H : Heap) (locs : List Loc) (ls : Array Slot), p_H D cy S A s H locs → lv_has ls 3 [(0, .ref l0), (1, .int l1), (2, .int l2)] → W p l e rm_X8_weight s m [.ref a0, .int a1, .int a2].toArray below meth c H locs 0 0 (MQ below (va_Qi post (p_Post D cy A) A) [.ref a0, .int a1, .int a2].toArray s 0 0 A) (F0 m 21 ls [.ref t0]) := by
    intro S l0 l1 l2 t0 hf H locs ls hH hl
    refine lv_iconst (v := 0) hx hb dX8_weight_21 (by decide) ?_
    exact hJ22 S l0 l1 l2 0 t0 hf H locs ls hH hl
  refine lv_aload_n hx hb dX8_weight_0 rfl (lv_at hl 0 rfl) ?_
  refine lv_aload_n hx hb dX8_weight_1 rfl (lv_at hl 0 rfl) ?_
  refine lv_iload_n hx hb dX8_weight_2 rfl (lv_at hl 1 rfl) ?_
  obtain ⟨hb1, hb2, hf⟩ := hf
  refine q_backI0 X hH (q_runV [.int a1] [.ref a0] X hH hl (c_X8_isHouse l D cy G X.2.2.2.1 S a0 a1 _ _ hf) mf_X8_isHouse mv_X8_isHouse tw_1737 ⟨Nat.le_of_ble_eq_true rfl, Nat.le_of_ble_eq_true rfl⟩ hb1 hb2 (T := TX8) (N := 25) rfl rfl (Nat.le_of_ble_eq_true rfl) dX8_weight_3 ⟨Nat.le_of_ble_eq_true rfl, Nat.le_of_ble_eq_true rfl⟩) (fun v2 S1 hf H locs hH => ?_)
  refine lv_if_eq (tgt := 21) hx hb dX8_weight_6 (by decide) (fun c3 => ?_) (fun c3 => ?_)
  · have hf := (if_pos c3).mp hf
    exact hJ21 S1 a0 a1 a2 a0 hf H locs ls hH hl
  · have hf := (if_neg c3).mp hf
    refine lv_aload_n hx hb dX8_weight_9 rfl (lv_at hl 0 rfl) ?_
    refine lv_iload_n hx hb dX8_weight_10 rfl (lv_at hl 2 rfl) ?_
    obtain ⟨hb1, hb2, hf⟩ := hf
    refine q_backI0 X hH (q_runV [.int a2] [.ref a0] X hH hl (c_X8_isHouse l D cy G X.2.2.2.1 S1 a0 a2 _ _ hf) mf_X8_isHouse mv_X8_isHouse tw_1737 ⟨Nat.le_of_ble_eq_true rfl, Nat.le_of_ble_eq_true rfl⟩ hb1 hb2 (T := TX8) (N := 25) rfl rfl (Nat.le_of_ble_eq_true rfl) dX8_weight_11 ⟨Nat.le_of_ble_eq_true rfl, Nat.le_of_ble_eq_true rfl⟩) (fun v5 S4 hf H locs hH => ?_)
    refine lv_if_eq (tgt := 21) hx hb dX8_weight_14 (by decide) (fun c6 => ?_) (fun c6 => ?_)
    · have hf := (if_pos c6).mp hf
      exact hJ21 S4 a0 a1 a2 a0 hf H locs ls hH hl
    · have hf := (if_neg c6).mp hf
      refine lv_iconst (v := 1) hx hb dX8_weight_17 (by decide) ?_
      refine lv_goto (tgt := 22) hx hb dX8_weight_18 (by decide) ?_
      exact hJ22 S4 a0 a1 a2 1 a0 hf H locs ls hH hl
-- X8_tiedMost
def f_X8_tiedMost_J43 (post : Int32 → PS → Prop) (g4 : PS → Nat → Int32 → Int32 → Int32 → Prop) (S : PS) (l0 : Nat) (l1 : Int32) (l3 : Int32) (t0 : Int32) : Prop :=
  g4 S l0 l1 t0 (l3 + 1)
def f_X8_tiedMost_J35 (post : Int32 → PS → Prop) (g4 : PS → Nat → Int32 → Int32 → Int32 → Prop) (S : PS) (l0 : Nat) (l1 : Int32) (l2 : Int32) (l3 : Int32) (t0 : Int32) (t1 : Int32) : Prop :=
  if t1 ≤ t0 then
    f_X8_tiedMost_J43 post g4 S l0 l1 l3 l2
  else
    f_X8_tiedMost_J43 post g4 S l0 l1 l3 l3
def f_X8_tiedMost_L4 (post : Int32 → PS → Prop) : Nat → PS → Nat → Int32 → Int32 → Int32 → Prop
  | 0, _, _, _, _, _ => False
  | n + 1, S, l0, l1, l2, l3 =>
  gR S l0 12 1 fun v1 => (
  aI S v1 0 0 fun v2 => (
  if v2 ≤ l3 then
    post l2 S
  else
    isO S l0 12 (
    f_X8_w S l0 l1 l3 fun v5 S4 => (
    if l2 = (-1) then
      f_X8_tiedMost_J35 post (f_X8_tiedMost_L4 post n) S4 l0 l1 l2 l3 0 v5
    else
      isO S4 l0 12 (
      f_X8_w S4 l0 l1 l2 fun v8 S7 => (
      f_X8_tiedMost_J35 post (f_X8_tiedMost_L4 post n) S7 l0 l1 l2 l3 v8 v5))))))
def f_X8_tiedMost (S : PS) (a0 : Nat) (a1 : Int32) (post : Int32 → PS → Prop) : Prop :=
  f_X8_tiedMost_L4 post 4096 S a0 a1 (-1) 0
abbrev rm_X8_tiedMost : Room := { frames := 1, cells := 0, slots := 0, locals := 22 }
set_option maxHeartbeats 4000000 in
set_option maxRecDepth 100000 in
theorem c_X8_tiedMost (l : Launch) (D : va_G) (cy : Nat → ClassId) (G : p_GT) (hG : p_ok G) (S : PS) (a0 : Nat) (a1 : Int32) (post : Int32 → PS → Prop) (sz : Nat) (hf : f_X8_tiedMost S a0 a1 post) : p_Mi l D cy G S sz yX8_tiedMost (Cond.code yX8_tiedMost cX8_tiedMost 4 (some .int) :: wG) rm_X8_tiedMost [.ref a0, .int a1] 0 0 post := by
  refine q_start hG (Qc := fun A => va_Qi post (p_Post D cy A) A) mf_X8_tiedMost (Nat.le_of_ble_eq_true rfl) (own := RX8) rfl ?_
  intro p e s m below meth c A X hr hlk hnm ls hl hH
  have hx := X.1.1
  have hb := X.1.2.1
  replace hl : lv_has ls 4 [(0, .ref a0), (1, .int a1)] := hl
  obtain ⟨H, hHe⟩ : ∃ H, H = s.heap := ⟨_, rfl⟩
  obtain ⟨locs, hlo⟩ : ∃ locs : List Loc, locs = [] := ⟨_, rfl⟩
  rw [← hHe, ← hlo] at hH
  show W p l e rm_X8_tiedMost s m [.ref a0, .int a1].toArray below meth c s.heap [] 0 0 _ _
  rw [← hHe, ← hlo]
  have hL4 : ∀ (n4 : Nat) (S : PS) (l0 : Nat) (l1 : Int32) (l2 : Int32) (l3 : Int32), f_X8_tiedMost_L4 post n4 S l0 l1 l2 l3 → ∀ (H : Heap) (locs : List Loc) (ls : Array Slot), p_H D cy S A s H locs → lv_has ls 4 [(0, .ref l0), (1, .int l1), (2, .int l2), (3, .int l3)] → W p l e rm_X8_tiedMost s m [.ref a0, .int a1].toArray below meth c H locs 0 0 (MQ below (va_Qi post (p_Post D cy A) A) [.ref a0, .int a1].toArray s 0 0 A) (F0 m 4 ls []) := by
    intro n4
    induction n4 with
    | zero => intro S l0 l1 l2 l3 hf; exact hf.elim
    | succ n4 ih4 =>
      intro S l0 l1 l2 l3 hf H locs ls hH hl
      have hJ35 : ∀ (S : PS) (l0 : Nat) (l1 : Int32) (l2 : Int32) (l3 : Int32) (t0 : Int32) (t1 : Int32), f_X8_tiedMost_J35 post (f_X8_tiedMost_L4 post n4) S l0 l1 l2 l3 t0 t1 → ∀ (H : Heap) (locs : List Loc) (ls : Array Slot), p_H D cy S A s H locs → lv_has ls 4 [(0, .ref l0), (1, .int l1), (2, .int l2), (3, .int l3)] → W p l e rm_X8_tiedMost s m [.ref a0, .int a1].toArray below meth c H locs 0 0 (MQ below (va_Qi post (p_Post D cy A) A) [.ref a0, .int a1].toArray s 0 0 A) (F0 m 35 ls [.int t0, .int t1]) := by
        intro S l0 l1 l2 l3 t0 t1 hf H locs ls hH hl
        have hJ43 : ∀ (S : PS) (l0 : Nat) (l1 : Int32) (l3 : Int32) (t0 : Int32), f_X8_tiedMost_J43 post (f_X8_tiedMost_L4 post n4) S l0 l1 l3 t0 → ∀ (H : Heap) (locs : List Loc) (ls : Array Slot), p_H D cy S A s H locs → lv_has ls 4 [(0, .ref l0), (1, .int l1), (3, .int l3)] → W p l e rm_X8_tiedMost s m [.ref a0, .int a1].toArray below meth c H locs 0 0 (MQ below (va_Qi post (p_Post D cy A) A) [.ref a0, .int a1].toArray s 0 0 A) (F0 m 43 ls [.int t0]) := by
          intro S l0 l1 l3 t0 hf H locs ls hH hl
          refine lv_istore_n (lv' := [(2, .int t0), (0, .ref l0), (1, .int l1), (3, .int l3)]) hx hb dX8_tiedMost_43 rfl hl (by decide) rfl (fun ls hl => ?_)
          refine lv_iinc (v := l3 + 1) (lv' := [(3, .int (l3 + 1)), (2, .int t0), (0, .ref l0), (1, .int l1)]) hx hb dX8_tiedMost_44 hl (k := 3) rfl rfl (by decide) rfl (fun ls hl => ?_)
          refine lv_goto (tgt := 4) hx hb dX8_tiedMost_47 (by decide) ?_
          exact ih4 S l0 l1 t0 (l3 + 1) hf H locs ls hH (lv_sub hl [2, 3, 1, 0] rfl)
        refine lv_icmp_le (tgt := 42) hx hb dX8_tiedMost_35 (by decide) (fun c1 => ?_) (fun c1 => ?_)
        · have hf := (if_pos c1).mp hf
          refine lv_iload_n hx hb dX8_tiedMost_42 rfl (lv_at hl 2 rfl) ?_
          exact hJ43 S l0 l1 l3 l2 hf H locs ls hH (lv_sub hl [0, 1, 3] rfl)
        · have hf := (if_neg c1).mp hf
          refine lv_iload_n hx hb dX8_tiedMost_38 rfl (lv_at hl 3 rfl) ?_
          refine lv_goto (tgt := 43) hx hb dX8_tiedMost_39 (by decide) ?_
          exact hJ43 S l0 l1 l3 l3 hf H locs ls hH (lv_sub hl [0, 1, 3] rfl)
      refine lv_iload_n hx hb dX8_tiedMost_4 rfl (lv_at hl 3 rfl) ?_
      refine lv_aload_n hx hb dX8_tiedMost_5 rfl (lv_at hl 0 rfl) ?_
      refine q_getR (T := TX8) (N := 25) X hH hf iw_X8 rfl (by decide) tw_1610 (fun _ h => h) dX8_tiedMost_6 (fun v1 hf => ?_)
      refine lv_iconst (v := 0) hx hb dX8_tiedMost_9 (by decide) ?_
      refine q_iald X hH hf dX8_tiedMost_10 (fun v2 hf => ?_)
      refine lv_icmp_ge (tgt := 50) hx hb dX8_tiedMost_11 (by decide) (fun c3 => ?_) (fun c3 => ?_)
      · have hf := (if_pos c3).mp hf
        refine lv_iload_n hx hb dX8_tiedMost_50 rfl (lv_at hl 2 rfl) ?_
        exact q_retI X hH hr hlk hf (Nat.zero_le _) (Nat.zero_le _) dX8_tiedMost_51
      · have hf := (if_neg c3).mp hf
        refine lv_aload_n hx hb dX8_tiedMost_14 rfl (lv_at hl 0 rfl) ?_
        refine lv_iload_n hx hb dX8_tiedMost_15 rfl (lv_at hl 1 rfl) ?_
        refine lv_iload_n hx hb dX8_tiedMost_16 rfl (lv_at hl 3 rfl) ?_
        obtain ⟨hb1, hb2, hf⟩ := hf
        refine q_backI0 X hH (q_runV [.int l1, .int l3] [] X hH hl (c_X8_w l D cy G X.2.2.2.1 S l0 l1 l3 _ _ hf) mf_X8_w mv_X8_w tw_1745 ⟨Nat.le_of_ble_eq_true rfl, Nat.le_of_ble_eq_true rfl⟩ hb1 hb2 (T := TX8) (N := 25) rfl rfl (Nat.le_of_ble_eq_true rfl) dX8_tiedMost_17 ⟨Nat.le_of_ble_eq_true rfl, Nat.le_of_ble_eq_true rfl⟩) (fun v5 S4 hf H locs hH => ?_)
        refine lv_iload_n hx hb dX8_tiedMost_20 rfl (lv_at hl 2 rfl) ?_
        refine lv_iconst (v := (-1)) hx hb dX8_tiedMost_21 (by decide) ?_
        refine lv_icmp_ne (tgt := 29) hx hb dX8_tiedMost_22 (by decide) (fun c6 => ?_) (fun c6 => ?_)
        · have hf := (if_neg c6).mp hf
          refine lv_aload_n hx hb dX8_tiedMost_29 rfl (lv_at hl 0 rfl) ?_
          refine lv_iload_n hx hb dX8_tiedMost_30 rfl (lv_at hl 1 rfl) ?_
          refine lv_iload_n hx hb dX8_tiedMost_31 rfl (lv_at hl 2 rfl) ?_
          obtain ⟨hb1, hb2, hf⟩ := hf
          refine q_backI0 X hH (q_runV [.int l1, .int l2] [.int v5] X hH hl (c_X8_w l D cy G X.2.2.2.1 S4 l0 l1 l2 _ _ hf) mf_X8_w mv_X8_w tw_1745 ⟨Nat.le_of_ble_eq_true rfl, Nat.le_of_ble_eq_true rfl⟩ hb1 hb2 (T := TX8) (N := 25) rfl rfl (Nat.le_of_ble_eq_true rfl) dX8_tiedMost_32 ⟨Nat.le_of_ble_eq_true rfl, Nat.le_of_ble_eq_true rfl⟩) (fun v8 S7 hf H locs hH => ?_)
          exact hJ35 S7 l0 l1 l2 l3 v8 v5 hf H locs ls hH hl
        · have hf := (if_pos c6).mp hf
          refine lv_iconst (v := 0) hx hb dX8_tiedMost_25 (by decide) ?_
          refine lv_goto (tgt := 35) hx hb dX8_tiedMost_26 (by decide) ?_
          exact hJ35 S4 l0 l1 l2 l3 0 v5 hf H locs ls hH hl
  refine lv_iconst (v := (-1)) hx hb dX8_tiedMost_0 (by decide) ?_
  refine lv_istore_n (lv' := [(2, .int ((-1))), (0, .ref a0), (1, .int a1)]) hx hb dX8_tiedMost_1 rfl hl (by decide) rfl (fun ls hl => ?_)
  refine lv_iconst (v := 0) hx hb dX8_tiedMost_2 (by decide) ?_
  refine lv_istore_n (lv' := [(3, .int 0), (2, .int ((-1))), (0, .ref a0), (1, .int a1)]) hx hb dX8_tiedMost_3 rfl hl (by decide) rfl (fun ls hl => ?_)
  exact hL4 4096 S a0 a1 (-1) 0 hf H locs ls hH (lv_sub hl [2, 3, 1, 0] rfl)
