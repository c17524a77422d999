-- X7_leastWith
def f_X7_leastWith (S : PS) (a0 : Nat) (a1 : Int32) (a2 : Int32) (a3 : Int32) (post : Int32 → PS → Prop) : Prop :=
  gR S a0 11 1 fun v1 => (
  gR S a0 11 0 fun v2 => (
  isO S v1 10 (
  f_X6_copyFrom S v1 v2 fun S3 => (
  gR S3 a0 11 1 fun v5 => (
  isO S3 v5 10 (
  f_X6_retie S3 v5 a1 a2 a3 fun v7 S6 => (
  gR S6 a0 11 1 fun v8 => (
  isO S6 a0 11 (
  f_X7_leastByPhases S6 a0 v8 fun v10 S9 => (
  post v10 S9))))))))))
abbrev rm_X7_leastWith : Room := { frames := 5, cells := 0, slots := 0, locals := 115 }
set_option maxHeartbeats 4000000 in
set_option maxRecDepth 100000 in
theorem c_X7_leastWith (l : Launch) (D : va_G) (cy : Nat → ClassId) (G : p_GT) (hG : p_ok G) (S : PS) (a0 : Nat) (a1 : Int32) (a2 : Int32) (a3 : Int32) (post : Int32 → PS → Prop) (sz : Nat) (hf : f_X7_leastWith S a0 a1 a2 a3 post) : p_Mi l D cy G S sz yX7_leastWith (Cond.code yX7_leastWith cX7_leastWith 4 (some .int) :: wG) rm_X7_leastWith [.ref a0, .int a1, .int a2, .int a3] 0 0 post := by
  refine q_start hG (Qc := fun A => va_Qi post (p_Post D cy A) A) mf_X7_leastWith (Nat.le_of_ble_eq_true rfl) (own := RX7) rfl ?_
  intro p e s m below meth c A X hr hlk hnm ls hl hH
  have hx := X.1.1
  have hb := X.1.2.1
  replace hl : lv_has ls 4 [(0, .ref a0), (1, .int a1), (2, .int a2), (3, .int a3)] := hl
  obtain ⟨H, hHe⟩ : ∃ H, H = s.heap := ⟨_, rfl⟩
  obtain ⟨locs, hlo⟩ : ∃ locs : List Loc, locs = [] := ⟨_, rfl⟩
  rw [← hHe, ← hlo] at hH
  show W p l e rm_X7_leastWith s m [.ref a0, .int a1, .int a2, .int a3].toArray below meth c s.heap [] 0 0 _ _
  rw [← hHe, ← hlo]
  refine lv_aload_n hx hb dX7_leastWith_0 rfl (lv_at hl 0 rfl) ?_
  refine q_getR (T := TX7) (N := 12) X hH hf iw_X7 rfl (by decide) tw_320 (fun _ h => h) dX7_leastWith_1 (fun v1 hf => ?_)
  refine lv_aload_n hx hb dX7_leastWith_4 rfl (lv_at hl 0 rfl) ?_
  refine q_getR (T := TX7) (N := 12) X hH hf iw_X7 rfl (by decide) tw_319 (fun _ h => h) dX7_leastWith_5 (fun v2 hf => ?_)
  obtain ⟨hb1, hb2, hf⟩ := hf
  refine q_backV0 X hH (q_runV [.ref v2] [] X hH hl (c_X6_copyFrom l D cy G X.2.2.2.1 S v1 v2 _ _ hf) mf_X6_copyFrom mv_X6_copyFrom tw_944 ⟨Nat.le_of_ble_eq_true rfl, Nat.le_of_ble_eq_true rfl⟩ hb1 hb2 (T := TX6) (N := 6) rfl rfl (Nat.le_of_ble_eq_true rfl) dX7_leastWith_8 ⟨Nat.le_of_ble_eq_true rfl, Nat.le_of_ble_eq_true rfl⟩) (fun S3 hf H locs hH => ?_)
  refine lv_aload_n hx hb dX7_leastWith_11 rfl (lv_at hl 0 rfl) ?_
  refine q_getR (T := TX7) (N := 12) X hH hf iw_X7 rfl (by decide) tw_320 (fun _ h => h) dX7_leastWith_12 (fun v5 hf => ?_)
  refine lv_iload_n hx hb dX7_leastWith_15 rfl (lv_at hl 1 rfl) ?_
  refine lv_iload_n hx hb dX7_leastWith_16 rfl (lv_at hl 2 rfl) ?_
  refine lv_iload_n hx hb dX7_leastWith_17 rfl (lv_at hl 3 rfl) ?_
  obtain ⟨hb1, hb2, hf⟩ := hf
  refine q_backI0 X hH (q_runV [.int a1, .int a2, .int a3] [] X hH hl (c_X6_retie l D cy G X.2.2.2.1 S3 v5 a1 a2 a3 _ _ hf) mf_X6_retie mv_X6_retie tw_1030 ⟨Nat.le_of_ble_eq_true rfl, Nat.le_of_ble_eq_true rfl⟩ hb1 hb2 (T := TX6) (N := 6) rfl rfl (Nat.le_of_ble_eq_true rfl) dX7_leastWith_18 ⟨Nat.le_of_ble_eq_true rfl, Nat.le_of_ble_eq_true rfl⟩) (fun v7 S6 hf H locs hH => ?_)
  refine lv_pop hx hb dX7_leastWith_21 rfl ?_
  refine lv_aload_n hx hb dX7_leastWith_22 rfl (lv_at hl 0 rfl) ?_
  refine lv_aload_n hx hb dX7_leastWith_23 rfl (lv_at hl 0 rfl) ?_
  refine q_getR (T := TX7) (N := 12) X hH hf iw_X7 rfl (by decide) tw_320 (fun _ h => h) dX7_leastWith_24 (fun v8 hf => ?_)
  obtain ⟨hb1, hb2, hf⟩ := hf
  refine q_backI0 X hH (q_runV [.ref v8] [] X hH hl (c_X7_leastByPhases l D cy G X.2.2.2.1 S6 a0 v8 _ _ hf) mf_X7_leastByPhases mv_X7_leastByPhases tw_435 ⟨Nat.le_of_ble_eq_true rfl, Nat.le_of_ble_eq_true rfl⟩ hb1 hb2 (T := TX7) (N := 12) rfl rfl (Nat.le_of_ble_eq_true rfl) dX7_leastWith_27 ⟨Nat.le_of_ble_eq_true rfl, Nat.le_of_ble_eq_true rfl⟩) (fun v10 S9 hf H locs hH => ?_)
  exact q_retI X hH hr hlk hf (Nat.zero_le _) (Nat.zero_le _) dX7_leastWith_30
-- X7_isLeastTold
def f_X7_isLeastTold_J104 (post : Int32 → PS → Prop) (g35 : PS → Nat → Int32 → Int32 → Prop) (S : PS) (l0 : Nat) (l1 : Int32) (l2 : Int32) : Prop :=
  g35 S l0 l1 (l2 + 1)
def f_X7_isLeastTold_L50 (post : Int32 → PS → Prop) (g35 : PS → Nat → Int32 → Int32 → Prop) : Nat → PS → Nat → Int32 → Int32 → Int32 → Prop
  | 0, _, _, _, _, _ => False
  | n + 1, S, l0, l1, l2, l3 =>
  gR S l0 11 0 fun v1 => (
  gI S v1 10 1 fun v2 => (
  if v2 ≤ l3 then
    f_X7_isLeastTold_J104 post g35 S l0 l1 l2
  else
    gR S l0 11 5 fun v4 => (
    isO S v4 4 (
    f_X0_leastApart S v4 l2 l3 fun v6 S5 => (
    gR S5 l0 11 6 fun v7 => (
    gR S5 l0 11 0 fun v8 => (
    isO S5 v7 5 (
    f_X1_mostFlow S5 v7 v8 l2 l3 fun v10 S9 => (
    if v6 = v10 then
      if l1 ≤ v6 then
        (f_X7_isLeastTold_L50 post g35 n) S9 l0 l1 l2 (l3 + 1)
      else
        nZ .boolean 0 (post 0 S9)
    else
      nZ .boolean 0 (post 0 S9))))))))))
def f_X7_isLeastTold_L35 (post : Int32 → PS → Prop) : Nat → PS → Nat → Int32 → Int32 → Prop
  | 0, _, _, _, _ => False
  | n + 1, S, l0, l1, l2 =>
  gR S l0 11 0 fun v1 => (
  gI S v1 10 1 fun v2 => (
  if v2 ≤ l2 then
    nZ .boolean 1 (post 1 S)
  else
    f_X7_isLeastTold_L50 post (f_X7_isLeastTold_L35 post n) 4096 S l0 l1 l2 (l2 + 1)))
def f_X7_isLeastTold (S : PS) (a0 : Nat) (post : Int32 → PS → Prop) : Prop :=
  gR S a0 11 0 fun v1 => (
  isO S a0 11 (
  f_X7_leastByPhases S a0 v1 fun v3 S2 => (
  gR S2 a0 11 5 fun v4 => (
  gR S2 a0 11 0 fun v5 => (
  isO S2 v4 4 (
  f_X0_measure S2 v4 v5 fun S6 => (
  gR S6 a0 11 5 fun v8 => (
  isO S6 v8 4 (
  f_X0_leastFeud S6 v8 fun v10 S9 => (
  if v3 = v10 then
    f_X7_isLeastTold_L35 post 4096 S9 a0 v3 0
  else
    nZ .boolean 0 (post 0 S9)))))))))))
abbrev rm_X7_isLeastTold : Room := { frames := 5, cells := 0, slots := 0, locals := 115 }
set_option maxHeartbeats 4000000 in
set_option maxRecDepth 100000 in
theorem c_X7_isLeastTold (l : Launch) (D : va_G) (cy : Nat → ClassId) (G : p_GT) (hG : p_ok G) (S : PS) (a0 : Nat) (post : Int32 → PS → Prop) (sz : Nat) (hf : f_X7_isLeastTold S a0 post) : p_Mi l D cy G S sz yX7_isLeastTold (Cond.code yX7_isLeastTold cX7_isLeastTold 5 (some .boolean) :: wG) rm_X7_isLeastTold [.ref a0] 0 0 post := by
  refine q_start hG (Qc := fun A => va_Qi post (p_Post D cy A) A) mf_X7_isLeastTold (Nat.le_of_ble_eq_true rfl) (own := RX7) rfl ?_
  intro p e s m below meth c A X hr hlk hnm ls hl hH
  have hx := X.1.1
  have hb := X.1.2.1
  replace hl : lv_has ls 5 [(0, .ref a0)] := hl
  obtain ⟨H, hHe⟩ : ∃ H, H = s.heap := ⟨_, rfl⟩
  obtain ⟨locs, hlo⟩ : ∃ locs : List Loc, locs = [] := ⟨_, rfl⟩
  rw [← hHe, ← hlo] at hH
  show W p l e rm_X7_isLeastTold s m [.ref a0].toArray below meth c s.heap [] 0 0 _ _
  rw [← hHe, ← hlo]
  have hL35 : ∀ (n35 : Nat) (S : PS) (l0 : Nat) (l1 : Int32) (l2 : Int32), f_X7_isLeastTold_L35 post n35 S l0 l1 l2 → ∀ (H : Heap) (locs : List Loc) (ls : Array Slot), p_H D cy S A s H locs → lv_has ls 5 [(0, .ref l0), (1, .int l1), (2, .int l2)] → W p l e rm_X7_isLeastTold s m [.ref a0].toArray below meth c H locs 0 0 (MQ below (va_Qi post (p_Post D cy A) A) [.ref a0].toArray s 0 0 A) (F0 m 35 ls []) := by
    intro n35
    induction n35 with
    | zero => intro S l0 l1 l2 hf; exact hf.elim
    | succ n35 ih35 =>
      intro S l0 l1 l2 hf H locs ls hH hl
      have hL50 : ∀ (n50 : Nat) (S : PS) (l0 : Nat) (l1 : Int32) (l2 : Int32) (l3 : Int32), f_X7_isLeastTold_L50 post (f_X7_isLeastTold_L35 post n35) n50 S l0 l1 l2 l3 → ∀ (H : Heap) (locs : List Loc) (ls : Array Slot), p_H D cy S A s H locs → lv_has ls 5 [(0, .ref l0), (1, .int l1), (2, .int l2), (3, .int l3)] → W p l e rm_X7_isLeastTold s m [.ref a0].toArray below meth c H locs 0 0 (MQ below (va_Qi post (p_Post D cy A) A) [.ref a0].toArray s 0 0 A) (F0 m 50 ls []) := by
        intro n50
        induction n50 with
        | zero => intro S l0 l1 l2 l3 hf; exact hf.elim
        | succ n50 ih50 =>
          intro S l0 l1 l2 l3 hf H locs ls hH hl
          have hJ104 : ∀ (S : PS) (l0 : Nat) (l1 : Int32) (l2 : Int32), f_X7_isLeastTold_J104 post (f_X7_isLeastTold_L35 post n35) S l0 l1 l2 → ∀ (H : Heap) (locs : List Loc) (ls : Array Slot), p_H D cy S A s H locs → lv_has ls 5 [(0, .ref l0), (1, .int l1), (2, .int l2)] → W p l e rm_X7_isLeastTold s m [.ref a0].toArray below meth c H locs 0 0 (MQ below (va_Qi post (p_Post D cy A) A) [.ref a0].toArray s 0 0 A) (F0 m 104 ls []) := by
            intro S l0 l1 l2 hf H locs ls hH hl
            refine lv_iinc (v := l2 + 1) (lv' := [(2, .int (l2 + 1)), (0, .ref l0), (1, .int l1)]) hx hb dX7_isLeastTold_104 hl (k := 2) rfl rfl (by decide) rfl (fun ls hl => ?_)
            refine lv_goto (tgt := 35) hx hb dX7_isLeastTold_107 (by decide) ?_
            exact ih35 S l0 l1 (l2 + 1) hf H locs ls hH (lv_sub hl [1, 2, 0] rfl)
          refine lv_iload_n hx hb dX7_isLeastTold_50 rfl (lv_at hl 3 rfl) ?_
          refine lv_aload_n hx hb dX7_isLeastTold_51 rfl (lv_at hl 0 rfl) ?_
          refine q_getR (T := TX7) (N := 12) X hH hf iw_X7 rfl (by decide) tw_319 (fun _ h => h) dX7_isLeastTold_52 (fun v1 hf => ?_)
          refine q_getIN (T := TX6) (N := 6) X hH hf iw_X6 rfl (by decide) (List.mem_of_getElem? (i := 0) rfl) (fun _ h => h) dX7_isLeastTold_55 (fun v2 hf => ?_)
          refine lv_icmp_ge (tgt := 104) hx hb dX7_isLeastTold_58 (by decide) (fun c3 => ?_) (fun c3 => ?_)
          · have hf := (if_pos c3).mp hf
            exact hJ104 S l0 l1 l2 hf H locs ls hH (lv_sub hl [0, 1, 2] rfl)
          · have hf := (if_neg c3).mp hf
            refine lv_aload_n hx hb dX7_isLeastTold_61 rfl (lv_at hl 0 rfl) ?_
            refine q_getR (T := TX7) (N := 12) X hH hf iw_X7 rfl (by decide) tw_324 (fun _ h => h) dX7_isLeastTold_62 (fun v4 hf => ?_)
            refine lv_iload_n hx hb dX7_isLeastTold_65 rfl (lv_at hl 2 rfl) ?_
            refine lv_iload_n hx hb dX7_isLeastTold_66 rfl (lv_at hl 3 rfl) ?_
            obtain ⟨hb1, hb2, hf⟩ := hf
            refine q_backI0 X hH (q_runV [.int l2, .int l3] [] X hH hl (c_X0_leastApart l D cy G X.2.2.2.1 S v4 l2 l3 _ _ hf) mf_X0_leastApart mv_X0_leastApart tw_506 ⟨Nat.le_of_ble_eq_true rfl, Nat.le_of_ble_eq_true rfl⟩ hb1 hb2 (T := TX0) (N := 2) rfl rfl (Nat.le_of_ble_eq_true rfl) dX7_isLeastTold_67 ⟨Nat.le_of_ble_eq_true rfl, Nat.le_of_ble_eq_true rfl⟩) (fun v6 S5 hf H locs hH => ?_)
            refine lv_istore (lv' := [(4, .int v6), (0, .ref l0), (1, .int l1), (2, .int l2), (3, .int l3)]) hx hb dX7_isLeastTold_70 hl (by decide) rfl (fun ls hl => ?_)
            refine lv_iload hx hb dX7_isLeastTold_72 (lv_at hl 0 rfl) ?_
            refine lv_aload_n hx hb dX7_isLeastTold_74 rfl (lv_at hl 1 rfl) ?_
            refine q_getR (T := TX7) (N := 12) X hH hf iw_X7 rfl (by decide) tw_325 (fun _ h => h) dX7_isLeastTold_75 (fun v7 hf => ?_)
            refine lv_aload_n hx hb dX7_isLeastTold_78 rfl (lv_at hl 1 rfl) ?_
            refine q_getR (T := TX7) (N := 12) X hH hf iw_X7 rfl (by decide) tw_319 (fun _ h => h) dX7_isLeastTold_79 (fun v8 hf => ?_)
            refine lv_iload_n hx hb dX7_isLeastTold_82 rfl (lv_at hl 3 rfl) ?_
            refine lv_iload_n hx hb dX7_isLeastTold_83 rfl (lv_at hl 4 rfl) ?_
            obtain ⟨hb1, hb2, hf⟩ := hf
            refine q_backI0 X hH (q_runV [.ref v8, .int l2, .int l3] [.int v6] X hH hl (c_X1_mostFlow l D cy G X.2.2.2.1 S5 v7 v8 l2 l3 _ _ hf) mf_X1_mostFlow mv_X1_mostFlow tw_511 ⟨Nat.le_of_ble_eq_true rfl, Nat.le_of_ble_eq_true rfl⟩ hb1 hb2 (T := TX1) (N := 3) rfl rfl (Nat.le_of_ble_eq_true rfl) dX7_isLeastTold_84 ⟨Nat.le_of_ble_eq_true rfl, Nat.le_of_ble_eq_true rfl⟩) (fun v10 S9 hf H locs hH => ?_)
            refine lv_icmp_ne (tgt := 96) hx hb dX7_isLeastTold_87 (by decide) (fun c11 => ?_) (fun c11 => ?_)
            · have hf := (if_neg c11).mp hf
              refine lv_iconst (v := 0) hx hb dX7_isLeastTold_96 (by decide) ?_
              exact q_retZ X hH hr hlk hf (Nat.zero_le _) (Nat.zero_le _) dX7_isLeastTold_97
            · have hf := (if_pos c11).mp hf
              refine lv_iload_n hx hb dX7_isLeastTold_90 rfl (lv_at hl 2 rfl) ?_
              refine lv_iload hx hb dX7_isLeastTold_91 (lv_at hl 0 rfl) ?_
              refine lv_icmp_le (tgt := 98) hx hb dX7_isLeastTold_93 (by decide) (fun c12 => ?_) (fun c12 => ?_)
              · have hf := (if_pos c12).mp hf
                refine lv_iinc (v := l3 + 1) (lv' := [(3, .int (l3 + 1)), (4, .int v6), (0, .ref l0), (1, .int l1), (2, .int l2)]) hx hb dX7_isLeastTold_98 hl (k := 4) rfl rfl (by decide) rfl (fun ls hl => ?_)
                refine lv_goto (tgt := 50) hx hb dX7_isLeastTold_101 (by decide) ?_
                exact ih50 S9 l0 l1 l2 (l3 + 1) hf H locs ls hH (lv_sub hl [2, 3, 4, 0] rfl)
              · have hf := (if_neg c12).mp hf
                refine lv_iconst (v := 0) hx hb dX7_isLeastTold_96 (by decide) ?_
                exact q_retZ X hH hr hlk hf (Nat.zero_le _) (Nat.zero_le _) dX7_isLeastTold_97
      refine lv_iload_n hx hb dX7_isLeastTold_35 rfl (lv_at hl 2 rfl) ?_
      refine lv_aload_n hx hb dX7_isLeastTold_36 rfl (lv_at hl 0 rfl) ?_
      refine q_getR (T := TX7) (N := 12) X hH hf iw_X7 rfl (by decide) tw_319 (fun _ h => h) dX7_isLeastTold_37 (fun v1 hf => ?_)
      refine q_getIN (T := TX6) (N := 6) X hH hf iw_X6 rfl (by decide) (List.mem_of_getElem? (i := 0) rfl) (fun _ h => h) dX7_isLeastTold_40 (fun v2 hf => ?_)
      refine lv_icmp_ge (tgt := 110) hx hb dX7_isLeastTold_43 (by decide) (fun c3 => ?_) (fun c3 => ?_)
      · have hf := (if_pos c3).mp hf
        refine lv_iconst (v := 1) hx hb dX7_isLeastTold_110 (by decide) ?_
        exact q_retZ X hH hr hlk hf (Nat.zero_le _) (Nat.zero_le _) dX7_isLeastTold_111
      · have hf := (if_neg c3).mp hf
        refine lv_iload_n hx hb dX7_isLeastTold_46 rfl (lv_at hl 2 rfl) ?_
        refine lv_iconst (v := 1) hx hb dX7_isLeastTold_47 (by decide) ?_
        refine lv_iadd hx hb dX7_isLeastTold_48 ?_
        refine lv_istore_n (lv' := [(3, .int (l2 + 1)), (0, .ref l0), (1, .int l1), (2, .int l2)]) hx hb dX7_isLeastTold_49 rfl hl (by decide) rfl (fun ls hl => ?_)
        exact hL50 4096 S l0 l1 l2 (l2 + 1) hf H locs ls hH (lv_sub hl [1, 2, 3, 0] rfl)
  refine lv_aload_n hx hb dX7_isLeastTold_0 rfl (lv_at hl 0 rfl) ?_
  refine lv_aload_n hx hb dX7_isLeastTold_1 rfl (lv_at hl 0 rfl) ?_
  refine q_getR (T := TX7) (N := 12) X hH hf iw_X7 rfl (by decide) tw_319 (fun _ h => h) dX7_isLeastTold_2 (fun v1 hf => ?_)
  obtain ⟨hb1, hb2, hf⟩ := hf
  refine q_backI0 X hH (q_runV [.ref v1] [] X hH hl (c_X7_leastByPhases l D cy G X.2.2.2.1 S a0 v1 _ _ hf) mf_X7_leastByPhases mv_X7_leastByPhases tw_435 ⟨Nat.le_of_ble_eq_true rfl, Nat.le_of_ble_eq_true rfl⟩ hb1 hb2 (T := TX7) (N := 12) rfl rfl (Nat.le_of_ble_eq_true rfl) dX7_isLeastTold_5 ⟨Nat.le_of_ble_eq_true rfl, Nat.le_of_ble_eq_true rfl⟩) (fun v3 S2 hf H locs hH => ?_)
  refine lv_istore_n (lv' := [(1, .int v3), (0, .ref a0)]) hx hb dX7_isLeastTold_8 rfl hl (by decide) rfl (fun ls hl => ?_)
  refine lv_aload_n hx hb dX7_isLeastTold_9 rfl (lv_at hl 1 rfl) ?_
  refine q_getR (T := TX7) (N := 12) X hH hf iw_X7 rfl (by decide) tw_324 (fun _ h => h) dX7_isLeastTold_10 (fun v4 hf => ?_)
  refine lv_aload_n hx hb dX7_isLeastTold_13 rfl (lv_at hl 1 rfl) ?_
  refine q_getR (T := TX7) (N := 12) X hH hf iw_X7 rfl (by decide) tw_319 (fun _ h => h) dX7_isLeastTold_14 (fun v5 hf => ?_)
  obtain ⟨hb1, hb2, hf⟩ := hf
  refine q_backV0 X hH (q_runV [.ref v5] [] X hH hl (c_X0_measure l D cy G X.2.2.2.1 S2 v4 v5 _ _ hf) mf_X0_measure mv_X0_measure tw_493 ⟨Nat.le_of_ble_eq_true rfl, Nat.le_of_ble_eq_true rfl⟩ hb1 hb2 (T := TX0) (N := 2) rfl rfl (Nat.le_of_ble_eq_true rfl) dX7_isLeastTold_17 ⟨Nat.le_of_ble_eq_true rfl, Nat.le_of_ble_eq_true rfl⟩) (fun S6 hf H locs hH => ?_)
  refine lv_iload_n hx hb dX7_isLeastTold_20 rfl (lv_at hl 0 rfl) ?_
  refine lv_aload_n hx hb dX7_isLeastTold_21 rfl (lv_at hl 1 rfl) ?_
  refine q_getR (T := TX7) (N := 12) X hH hf iw_X7 rfl (by decide) tw_324 (fun _ h => h) dX7_isLeastTold_22 (fun v8 hf => ?_)
  obtain ⟨hb1, hb2, hf⟩ := hf
  refine q_backI0 X hH (q_runV [] [.int v3] X hH hl (c_X0_leastFeud l D cy G X.2.2.2.1 S6 v8 _ _ hf) mf_X0_leastFeud mv_X0_leastFeud tw_500 ⟨Nat.le_of_ble_eq_true rfl, Nat.le_of_ble_eq_true rfl⟩ hb1 hb2 (T := TX0) (N := 2) rfl rfl (Nat.le_of_ble_eq_true rfl) dX7_isLeastTold_25 ⟨Nat.le_of_ble_eq_true rfl, Nat.le_of_ble_eq_true rfl⟩) (fun v10 S9 hf H locs hH => ?_)
  refine lv_icmp_eq (tgt := 33) hx hb dX7_isLeastTold_28 (by decide) (fun c11 => ?_) (fun c11 => ?_)
  · have hf := (if_pos c11).mp hf
    refine lv_iconst (v := 0) hx hb dX7_isLeastTold_33 (by decide) ?_
    refine lv_istore_n (lv' := [(2, .int 0), (1, .int v3), (0, .ref a0)]) hx hb dX7_isLeastTold_34 rfl hl (by decide) rfl (fun ls hl => ?_)
    exact hL35 4096 S9 a0 v3 0 hf H locs ls hH (lv_sub hl [2, 1, 0] rfl)
  · have hf := (if_neg c11).mp hf
    refine lv_iconst (v := 0) hx hb dX7_isLeastTold_31 (by decide) ?_
    exact q_retZ X hH hr hlk hf (Nat.zero_le _) (Nat.zero_le _) dX7_isLeastTold_32
-- X7_writeBond
def f_X7_writeBond_J20 (post : PS → Prop) (S : PS) (bc bs : Nat) (l0 : Nat) (l1 : Int32) (l2 : Int32) : Prop :=
  gR S l0 11 9 fun v1 => (
  isO S v1 1 (
  ∃ mc3 ms3 : Nat, mc3 ≤ bc ∧ ms3 ≤ bs ∧ (f_J4_append_bf812 S v1 l1 mc3 ms3 fun v4 S2 => (
  gR S2 l0 11 9 fun v5 => (
  isO S2 v5 1 (
  ∃ mc7 ms7 : Nat, mc7 ≤ (bc - mc3) ∧ ms7 ≤ (bs - ms3) ∧ (f_J4_append_bf812 S2 v5 l2 mc7 ms7 fun v8 S6 => (
  gR S6 l0 11 9 fun v9 => (
  isO S6 v9 1 (
  ∃ mc11 ms11 : Nat, mc11 ≤ ((bc - mc3) - mc7) ∧ ms11 ≤ ((bs - ms3) - ms7) ∧ (f_J4_append_cf468 S6 v9 61 mc11 ms11 fun v12 S10 => (
  gR S10 l0 11 9 fun v13 => (
  gR S10 l0 11 0 fun v14 => (
  isO S10 v14 10 (
  f_X6_tie S10 v14 l1 l2 fun v16 S15 => (
  isO S15 v13 1 (
  ∃ mc18 ms18 : Nat, mc18 ≤ (((bc - mc3) - mc7) - mc11) ∧ ms18 ≤ (((bs - ms3) - ms7) - ms11) ∧ (f_J4_append_bf812 S15 v13 v16 mc18 ms18 fun v19 S17 => (
  post S17)))))))))))))))))))
def f_X7_writeBond (S : PS) (a0 : Nat) (a1 : Int32) (a2 : Int32) (bc bs : Nat) (post : PS → Prop) : Prop :=
  gR S a0 11 9 fun v1 => (
  isO S v1 1 (
  f_J4_length_8abf5 S v1 fun v3 S2 => (
  if v3 ≤ 0 then
    f_X7_writeBond_J20 post S2 bc bs a0 a1 a2
  else
    gR S2 a0 11 9 fun v5 => (
    isO S2 v5 1 (
    ∃ mc7 ms7 : Nat, mc7 ≤ bc ∧ ms7 ≤ bs ∧ (f_J4_append_cf468 S2 v5 32 mc7 ms7 fun v8 S6 => (
    f_X7_writeBond_J20 post S6 (bc - mc7) (bs - ms7) a0 a1 a2)))))))
abbrev rm_X7_writeBond (mc ms : Nat) : Room := { frames := 6, cells := mc, slots := ms, locals := 148 }
set_option maxHeartbeats 4000000 in
set_option maxRecDepth 100000 in
theorem c_X7_writeBond (l : Launch) (D : va_G) (cy : Nat → ClassId) (G : p_GT) (hG : p_ok G) (hGC : ∀ (A : Nat → Prop) (U : State) (H : Heap), G A U H → gC A U H) (dT dO : Nat) (hGT : ∀ (A : Nat → Prop) (U : State) (H : Heap), G A U H → gT dT dO A U H) (hGU : ∀ (A : Nat → Prop) (U : State) (H : Heap), G A U H → gU A U H) (S : PS) (a0 : Nat) (a1 : Int32) (a2 : Int32) (mc ms : Nat) (post : PS → Prop) (sz : Nat) (hf : f_X7_writeBond S a0 a1 a2 mc ms post) : p_Mv l D cy G S sz yX7_writeBond (Cond.code yX7_writeBond cX7_writeBond 3 none :: wG) (rm_X7_writeBond mc ms) [.ref a0, .int a1, .int a2] mc ms post := by
  refine q_start hG (Qc := fun A => va_Qv post (p_Post D cy A) A) mf_X7_writeBond (Nat.le_of_ble_eq_true rfl) (own := RX7) rfl ?_
  intro p e s m below meth c A X hr hlk hnm ls hl hH
  have hx := X.1.1
  have hb := X.1.2.1
  replace hl : lv_has ls 3 [(0, .ref a0), (1, .int a1), (2, .int a2)] := hl
  have main : ∀ (H : Heap) (locs : List Loc) (ls : Array Slot) (cells slots bc bs : Nat), f_X7_writeBond S a0 a1 a2 bc bs post → p_H D cy S A s H locs → lv_has ls 3 [(0, .ref a0), (1, .int a1), (2, .int a2)] → cells + bc ≤ mc ∧ slots + bs ≤ ms → W p l e (rm_X7_writeBond mc ms) s m [.ref a0, .int a1, .int a2].toArray below meth c H locs cells slots (MQ below (va_Qv post (p_Post D cy A) A) [.ref a0, .int a1, .int a2].toArray s mc ms A) (F0 m 0 ls []) := by
    intro H locs ls cells slots bc bs hf hH hl hB
    have hJ20 : ∀ (S : PS) (bc bs : Nat) (l0 : Nat) (l1 : Int32) (l2 : Int32), f_X7_writeBond_J20 post S bc bs l0 l1 l2 → ∀ (H : Heap) (locs : List Loc) (ls : Array Slot) (cells slots : Nat), p_H D cy S A s H locs → lv_has ls 3 [(0, .ref l0), (1, .int l1), (2, .int l2)] → cells + bc ≤ mc ∧ slots + bs ≤ ms → W p l e (rm_X7_writeBond mc ms) s m [.ref a0, .int a1, .int a2].toArray below meth c H locs cells slots (MQ below (va_Qv post (p_Post D cy A) A) [.ref a0, .int a1, .int a2].toArray s mc ms A) (F0 m 20 ls []) := by
      intro S bc bs l0 l1 l2 hf H locs ls cells slots hH hl hB
      refine lv_aload_n hx hb dX7_writeBond_20 rfl (lv_at hl 0 rfl) ?_
      refine q_getR (T := TX7) (N := 12) X hH hf iw_X7 rfl (by decide) tw_328 (fun _ h => h) dX7_writeBond_21 (fun v1 hf => ?_)
      refine lv_iload_n hx hb dX7_writeBond_24 rfl (lv_at hl 1 rfl) ?_
      obtain ⟨hb1, hb2, hf⟩ := hf
      obtain ⟨mc3, ms3, hm1, hs1, hf⟩ := hf
      refine q_backRB X hH hB hm1 hs1 (q_runV [.int l1] [] X hH hl (c_J4_append_bf812 l D cy G X.2.2.2.1 hGC dT dO hGT hGU S v1 l1 mc3 ms3 _ _ hf) mf_J4_append_bf812 mv_J4_append_bf812 tw_930 ⟨Nat.le_of_ble_eq_true rfl, Nat.le_of_ble_eq_true rfl⟩ hb1 hb2 (T := TJ4) (N := 4) rfl rfl (Nat.le_of_ble_eq_true rfl) dX7_writeBond_25 ⟨Nat.le_trans (Nat.add_le_add_left hm1 _) hB.1, Nat.le_trans (Nat.add_le_add_left hs1 _) hB.2⟩) (fun v4 S2 hf H locs cells slots hH hB => ?_)
      refine lv_pop hx hb dX7_writeBond_28 rfl ?_
      refine lv_aload_n hx hb dX7_writeBond_29 rfl (lv_at hl 0 rfl) ?_
      refine q_getR (T := TX7) (N := 12) X hH hf iw_X7 rfl (by decide) tw_328 (fun _ h => h) dX7_writeBond_30 (fun v5 hf => ?_)
      refine lv_iload_n hx hb dX7_writeBond_33 rfl (lv_at hl 2 rfl) ?_
      obtain ⟨hb1, hb2, hf⟩ := hf
      obtain ⟨mc7, ms7, hm1, hs1, hf⟩ := hf
      refine q_backRB X hH hB hm1 hs1 (q_runV [.int l2] [] X hH hl (c_J4_append_bf812 l D cy G X.2.2.2.1 hGC dT dO hGT hGU S2 v5 l2 mc7 ms7 _ _ hf) mf_J4_append_bf812 mv_J4_append_bf812 tw_930 ⟨Nat.le_of_ble_eq_true rfl, Nat.le_of_ble_eq_true rfl⟩ hb1 hb2 (T := TJ4) (N := 4) rfl rfl (Nat.le_of_ble_eq_true rfl) dX7_writeBond_34 ⟨Nat.le_trans (Nat.add_le_add_left hm1 _) hB.1, Nat.le_trans (Nat.add_le_add_left hs1 _) hB.2⟩) (fun v8 S6 hf H locs cells slots hH hB => ?_)
      refine lv_pop hx hb dX7_writeBond_37 rfl ?_
      refine lv_aload_n hx hb dX7_writeBond_38 rfl (lv_at hl 0 rfl) ?_
      refine q_getR (T := TX7) (N := 12) X hH hf iw_X7 rfl (by decide) tw_328 (fun _ h => h) dX7_writeBond_39 (fun v9 hf => ?_)
      refine lv_bipush (v := 61) hx hb dX7_writeBond_42 (by decide) ?_
      obtain ⟨hb1, hb2, hf⟩ := hf
      obtain ⟨mc11, ms11, hm1, hs1, hf⟩ := hf
      refine q_backRB X hH hB hm1 hs1 (q_runV [.int 61] [] X hH hl (c_J4_append_cf468 l D cy G X.2.2.2.1 hGC hGU S6 v9 61 mc11 ms11 _ _ hf) mf_J4_append_cf468 mv_J4_append_cf468 tw_908 ⟨Nat.le_of_ble_eq_true rfl, Nat.le_of_ble_eq_true rfl⟩ hb1 hb2 (T := TJ4) (N := 4) rfl rfl (Nat.le_of_ble_eq_true rfl) dX7_writeBond_44 ⟨Nat.le_trans (Nat.add_le_add_left hm1 _) hB.1, Nat.le_trans (Nat.add_le_add_left hs1 _) hB.2⟩) (fun v12 S10 hf H locs cells slots hH hB => ?_)
      refine lv_pop hx hb dX7_writeBond_47 rfl ?_
      refine lv_aload_n hx hb dX7_writeBond_48 rfl (lv_at hl 0 rfl) ?_
      refine q_getR (T := TX7) (N := 12) X hH hf iw_X7 rfl (by decide) tw_328 (fun _ h => h) dX7_writeBond_49 (fun v13 hf => ?_)
      refine lv_aload_n hx hb dX7_writeBond_52 rfl (lv_at hl 0 rfl) ?_
      refine q_getR (T := TX7) (N := 12) X hH hf iw_X7 rfl (by decide) tw_319 (fun _ h => h) dX7_writeBond_53 (fun v14 hf => ?_)
      refine lv_iload_n hx hb dX7_writeBond_56 rfl (lv_at hl 1 rfl) ?_
      refine lv_iload_n hx hb dX7_writeBond_57 rfl (lv_at hl 2 rfl) ?_
      obtain ⟨hb1, hb2, hf⟩ := hf
      refine q_backI0 X hH (q_runV [.int l1, .int l2] [.ref v13] X hH hl (c_X6_tie l D cy G X.2.2.2.1 S10 v14 l1 l2 _ _ hf) mf_X6_tie mv_X6_tie tw_902 ⟨Nat.le_of_ble_eq_true rfl, Nat.le_of_ble_eq_true rfl⟩ hb1 hb2 (T := TX6) (N := 6) rfl rfl (Nat.le_of_ble_eq_true rfl) dX7_writeBond_58 ⟨Nat.le_trans (Nat.le_add_right _ _) hB.1, Nat.le_trans (Nat.le_add_right _ _) hB.2⟩) (fun v16 S15 hf H locs hH => ?_)
      obtain ⟨hb1, hb2, hf⟩ := hf
      obtain ⟨mc18, ms18, hm1, hs1, hf⟩ := hf
      refine q_backRB X hH hB hm1 hs1 (q_runV [.int v16] [] X hH hl (c_J4_append_bf812 l D cy G X.2.2.2.1 hGC dT dO hGT hGU S15 v13 v16 mc18 ms18 _ _ hf) mf_J4_append_bf812 mv_J4_append_bf812 tw_930 ⟨Nat.le_of_ble_eq_true rfl, Nat.le_of_ble_eq_true rfl⟩ hb1 hb2 (T := TJ4) (N := 4) rfl rfl (Nat.le_of_ble_eq_true rfl) dX7_writeBond_61 ⟨Nat.le_trans (Nat.add_le_add_left hm1 _) hB.1, Nat.le_trans (Nat.add_le_add_left hs1 _) hB.2⟩) (fun v19 S17 hf H locs cells slots hH hB => ?_)
      refine lv_pop hx hb dX7_writeBond_64 rfl ?_
      exact q_retV X hH hr hlk hf (Nat.le_trans (Nat.le_add_right _ _) hB.1) (Nat.le_trans (Nat.le_add_right _ _) hB.2) dX7_writeBond_65
    refine lv_aload_n hx hb dX7_writeBond_0 rfl (lv_at hl 0 rfl) ?_
    refine q_getR (T := TX7) (N := 12) X hH hf iw_X7 rfl (by decide) tw_328 (fun _ h => h) dX7_writeBond_1 (fun v1 hf => ?_)
    obtain ⟨hb1, hb2, hf⟩ := hf
    refine q_backI0 X hH (q_runV [] [] X hH hl (c_J4_length_8abf5 l D cy G X.2.2.2.1 S v1 _ _ hf) mf_J4_length_8abf5 mv_J4_length_8abf5 tw_907 ⟨Nat.le_of_ble_eq_true rfl, Nat.le_of_ble_eq_true rfl⟩ hb1 hb2 (T := TJ4) (N := 4) rfl rfl (Nat.le_of_ble_eq_true rfl) dX7_writeBond_4 ⟨Nat.le_trans (Nat.le_add_right _ _) hB.1, Nat.le_trans (Nat.le_add_right _ _) hB.2⟩) (fun v3 S2 hf H locs hH => ?_)
    refine lv_if_le (tgt := 20) hx hb dX7_writeBond_7 (by decide) (fun c4 => ?_) (fun c4 => ?_)
    · have hf := (if_pos c4).mp hf
      exact hJ20 S2 bc bs a0 a1 a2 hf H locs ls cells slots hH hl hB
    · have hf := (if_neg c4).mp hf
      refine lv_aload_n hx hb dX7_writeBond_10 rfl (lv_at hl 0 rfl) ?_
      refine q_getR (T := TX7) (N := 12) X hH hf iw_X7 rfl (by decide) tw_328 (fun _ h => h) dX7_writeBond_11 (fun v5 hf => ?_)
      refine lv_bipush (v := 32) hx hb dX7_writeBond_14 (by decide) ?_
      obtain ⟨hb1, hb2, hf⟩ := hf
      obtain ⟨mc7, ms7, hm1, hs1, hf⟩ := hf
      refine q_backRB X hH hB hm1 hs1 (q_runV [.int 32] [] X hH hl (c_J4_append_cf468 l D cy G X.2.2.2.1 hGC hGU S2 v5 32 mc7 ms7 _ _ hf) mf_J4_append_cf468 mv_J4_append_cf468 tw_908 ⟨Nat.le_of_ble_eq_true rfl, Nat.le_of_ble_eq_true rfl⟩ hb1 hb2 (T := TJ4) (N := 4) rfl rfl (Nat.le_of_ble_eq_true rfl) dX7_writeBond_16 ⟨Nat.le_trans (Nat.add_le_add_left hm1 _) hB.1, Nat.le_trans (Nat.add_le_add_left hs1 _) hB.2⟩) (fun v8 S6 hf H locs cells slots hH hB => ?_)
      refine lv_pop hx hb dX7_writeBond_19 rfl ?_
      exact hJ20 S6 (bc - mc7) (bs - ms7) a0 a1 a2 hf H locs ls cells slots hH hl hB
  exact main s.heap [] ls 0 0 mc ms hf hH hl ⟨by omega, by omega⟩
-- X7_writeSet
def f_X7_writeSet_J25 (post : PS → Prop) (g2 : PS → Nat → Nat → Nat → Int32 → Int32 → Prop) (S : PS) (bc bs : Nat) (l0 : Nat) (l1 : Int32) (l2 : Int32) : Prop :=
  g2 S bc bs l0 l1 (l2 + 1)
def f_X7_writeSet_L2 (post : PS → Prop) : Nat → PS → Nat → Nat → Nat → Int32 → Int32 → Prop
  | 0, _, _, _, _, _, _ => False
  | n + 1, S, bc, bs, l0, l1, l2 =>
  if 9 ≤ l2 then
    post S
  else
    f_X7_isIn S l1 l2 fun v3 S2 => (
    if v3 = 0 then
      f_X7_writeSet_J25 post (f_X7_writeSet_L2 post n) S2 bc bs l0 l1 l2
    else
      gR S2 l0 11 9 fun v5 => (
      isO S2 v5 1 (
      ∃ mc7 ms7 : Nat, mc7 ≤ bc ∧ ms7 ≤ bs ∧ (f_J4_append_bf812 S2 v5 l2 mc7 ms7 fun v8 S6 => (
      f_X7_writeSet_J25 post (f_X7_writeSet_L2 post n) S6 (bc - mc7) (bs - ms7) l0 l1 l2)))))
def f_X7_writeSet (S : PS) (a0 : Nat) (a1 : Int32) (bc bs : Nat) (post : PS → Prop) : Prop :=
  f_X7_writeSet_L2 post 4096 S bc bs a0 a1 0
abbrev rm_X7_writeSet (mc ms : Nat) : Room := { frames := 6, cells := mc, slots := ms, locals := 148 }
set_option maxHeartbeats 4000000 in
set_option maxRecDepth 100000 in
theorem c_X7_writeSet (l : Launch) (D : va_G) (cy : Nat → ClassId) (G : p_GT) (hG : p_ok G) (hGC : ∀ (A : Nat → Prop) (U : State) (H : Heap), G A U H → gC A U H) (dT dO : Nat) (hGT : ∀ (A : Nat → Prop) (U : State) (H : Heap), G A U H → gT dT dO A U H) (hGU : ∀ (A : Nat → Prop) (U : State) (H : Heap), G A U H → gU A U H) (S : PS) (a0 : Nat) (a1 : Int32) (mc ms : Nat) (post : PS → Prop) (sz : Nat) (hf : f_X7_writeSet S a0 a1 mc ms post) : p_Mv l D cy G S sz yX7_writeSet (Cond.code yX7_writeSet cX7_writeSet 3 none :: wG) (rm_X7_writeSet mc ms) [.ref a0, .int a1] mc ms post := by
  refine q_start hG (Qc := fun A => va_Qv post (p_Post D cy A) A) mf_X7_writeSet (Nat.le_of_ble_eq_true rfl) (own := RX7) rfl ?_
  intro p e s m below meth c A X hr hlk hnm ls hl hH
  have hx := X.1.1
  have hb := X.1.2.1
  replace hl : lv_has ls 3 [(0, .ref a0), (1, .int a1)] := hl
  have main : ∀ (H : Heap) (locs : List Loc) (ls : Array Slot) (cells slots bc bs : Nat), f_X7_writeSet S a0 a1 bc bs post → p_H D cy S A s H locs → lv_has ls 3 [(0, .ref a0), (1, .int a1)] → cells + bc ≤ mc ∧ slots + bs ≤ ms → W p l e (rm_X7_writeSet mc ms) s m [.ref a0, .int a1].toArray below meth c H locs cells slots (MQ below (va_Qv post (p_Post D cy A) A) [.ref a0, .int a1].toArray s mc ms A) (F0 m 0 ls []) := by
    intro H locs ls cells slots bc bs hf hH hl hB
    have hL2 : ∀ (n2 : Nat) (S : PS) (bc bs : Nat) (l0 : Nat) (l1 : Int32) (l2 : Int32), f_X7_writeSet_L2 post n2 S bc bs l0 l1 l2 → ∀ (H : Heap) (locs : List Loc) (ls : Array Slot) (cells slots : Nat), p_H D cy S A s H locs → lv_has ls 3 [(0, .ref l0), (1, .int l1), (2, .int l2)] → cells + bc ≤ mc ∧ slots + bs ≤ ms → W p l e (rm_X7_writeSet mc ms) s m [.ref a0, .int a1].toArray below meth c H locs cells slots (MQ below (va_Qv post (p_Post D cy A) A) [.ref a0, .int a1].toArray s mc ms A) (F0 m 2 ls []) := by
      intro n2
      induction n2 with
      | zero => intro S bc bs l0 l1 l2 hf; exact hf.elim
      | succ n2 ih2 =>
        intro S bc bs l0 l1 l2 hf H locs ls cells slots hH hl hB
        have hJ25 : ∀ (S : PS) (bc bs : Nat) (l0 : Nat) (l1 : Int32) (l2 : Int32), f_X7_writeSet_J25 post (f_X7_writeSet_L2 post n2) S bc bs l0 l1 l2 → ∀ (H : Heap) (locs : List Loc) (ls : Array Slot) (cells slots : Nat), p_H D cy S A s H locs → lv_has ls 3 [(0, .ref l0), (1, .int l1), (2, .int l2)] → cells + bc ≤ mc ∧ slots + bs ≤ ms → W p l e (rm_X7_writeSet mc ms) s m [.ref a0, .int a1].toArray below meth c H locs cells slots (MQ below (va_Qv post (p_Post D cy A) A) [.ref a0, .int a1].toArray s mc ms A) (F0 m 25 ls []) := by
          intro S bc bs l0 l1 l2 hf H locs ls cells slots hH hl hB
          refine lv_iinc (v := l2 + 1) (lv' := [(2, .int (l2 + 1)), (0, .ref l0), (1, .int l1)]) hx hb dX7_writeSet_25 hl (k := 2) rfl rfl (by decide) rfl (fun ls hl => ?_)
          refine lv_goto (tgt := 2) hx hb dX7_writeSet_28 (by decide) ?_
          exact ih2 S bc bs l0 l1 (l2 + 1) hf H locs ls cells slots hH (lv_sub hl [1, 2, 0] rfl) hB
        refine lv_iload_n hx hb dX7_writeSet_2 rfl (lv_at hl 2 rfl) ?_
        refine lv_bipush (v := 9) hx hb dX7_writeSet_3 (by decide) ?_
        refine lv_icmp_ge (tgt := 31) hx hb dX7_writeSet_5 (by decide) (fun c1 => ?_) (fun c1 => ?_)
        · have hf := (if_pos c1).mp hf
          exact q_retV X hH hr hlk hf (Nat.le_trans (Nat.le_add_right _ _) hB.1) (Nat.le_trans (Nat.le_add_right _ _) hB.2) dX7_writeSet_31
        · have hf := (if_neg c1).mp hf
          refine lv_iload_n hx hb dX7_writeSet_8 rfl (lv_at hl 1 rfl) ?_
          refine lv_iload_n hx hb dX7_writeSet_9 rfl (lv_at hl 2 rfl) ?_
          refine q_backI0 X hH (q_runS [.int l1, .int l2] [] X hH hl (c_X7_isIn l D cy G X.2.2.2.1 S l1 l2 _ _ hf) mf_X7_isIn tw_369 tw_422 ⟨Nat.le_of_ble_eq_true rfl, Nat.le_of_ble_eq_true rfl⟩ rfl (Nat.le_of_ble_eq_true rfl) dX7_writeSet_10 ⟨Nat.le_trans (Nat.le_add_right _ _) hB.1, Nat.le_trans (Nat.le_add_right _ _) hB.2⟩) (fun v3 S2 hf H locs hH => ?_)
          refine lv_if_eq (tgt := 25) hx hb dX7_writeSet_13 (by decide) (fun c4 => ?_) (fun c4 => ?_)
          · have hf := (if_pos c4).mp hf
            exact hJ25 S2 bc bs l0 l1 l2 hf H locs ls cells slots hH hl hB
          · have hf := (if_neg c4).mp hf
            refine lv_aload_n hx hb dX7_writeSet_16 rfl (lv_at hl 0 rfl) ?_
            refine q_getR (T := TX7) (N := 12) X hH hf iw_X7 rfl (by decide) tw_328 (fun _ h => h) dX7_writeSet_17 (fun v5 hf => ?_)
            refine lv_iload_n hx hb dX7_writeSet_20 rfl (lv_at hl 2 rfl) ?_
            obtain ⟨hb1, hb2, hf⟩ := hf
            obtain ⟨mc7, ms7, hm1, hs1, hf⟩ := hf
            refine q_backRB X hH hB hm1 hs1 (q_runV [.int l2] [] X hH hl (c_J4_append_bf812 l D cy G X.2.2.2.1 hGC dT dO hGT hGU S2 v5 l2 mc7 ms7 _ _ hf) mf_J4_append_bf812 mv_J4_append_bf812 tw_930 ⟨Nat.le_of_ble_eq_true rfl, Nat.le_of_ble_eq_true rfl⟩ hb1 hb2 (T := TJ4) (N := 4) rfl rfl (Nat.le_of_ble_eq_true rfl) dX7_writeSet_21 ⟨Nat.le_trans (Nat.add_le_add_left hm1 _) hB.1, Nat.le_trans (Nat.add_le_add_left hs1 _) hB.2⟩) (fun v8 S6 hf H locs cells slots hH hB => ?_)
            refine lv_pop hx hb dX7_writeSet_24 rfl ?_
            exact hJ25 S6 (bc - mc7) (bs - ms7) l0 l1 l2 hf H locs ls cells slots hH hl hB
    refine lv_iconst (v := 0) hx hb dX7_writeSet_0 (by decide) ?_
    refine lv_istore_n (lv' := [(2, .int 0), (0, .ref a0), (1, .int a1)]) hx hb dX7_writeSet_1 rfl hl (by decide) rfl (fun ls hl => ?_)
    exact hL2 4096 S bc bs a0 a1 0 hf H locs ls cells slots hH (lv_sub hl [1, 2, 0] rfl) hB
  exact main s.heap [] ls 0 0 mc ms hf hH hl ⟨by omega, by omega⟩
-- X5_kindByLetter
def f_X5_kindByLetter_J34 (adK : Nat → Nat) (post : Int32 → PS → Prop) (g2 : PS → Nat → Int32 → Prop) (S : PS) (l0 : Nat) (l1 : Int32) : Prop :=
  g2 S l0 (l1 + 1)
def f_X5_kindByLetter_L2 (adK : Nat → Nat) (post : Int32 → PS → Prop) : Nat → PS → Nat → Int32 → Prop
  | 0, _, _, _ => False
  | n + 1, S, l0, l1 =>
  if 6 < l1 then
    post (-1) S
  else
    f_X5_formOf adK S l1 fun v3 S2 => (
    sK adK v3 fun k6 => (f_J0_isEmpty_aae02 adK S2 v3 fun v5 S4 => (
    if v5 = 0 then
      sK adK v3 fun k10 => (f_J0_charAt_5068e adK S4 v3 0 fun v9 S8 => (
      isO S8 l0 9 (
      f_X5_isNext S8 l0 v9 fun v12 S11 => (
      if v12 = 0 then
        f_X5_kindByLetter_J34 adK post (f_X5_kindByLetter_L2 adK post n) S11 l0 l1
      else
        post l1 S11))))
    else
      f_X5_kindByLetter_J34 adK post (f_X5_kindByLetter_L2 adK post n) S4 l0 l1)))
def f_X5_kindByLetter (adK : Nat → Nat) (S : PS) (a0 : Nat) (post : Int32 → PS → Prop) : Prop :=
  f_X5_kindByLetter_L2 adK post 4096 S a0 0
abbrev rm_X5_kindByLetter : Room := { frames := 5, cells := 0, slots := 0, locals := 109 }
set_option maxHeartbeats 4000000 in
set_option maxRecDepth 100000 in
theorem c_X5_kindByLetter (l : Launch) (D : va_G) (cy : Nat → ClassId) (G : p_GT) (hG : p_ok G) (hGC : ∀ (A : Nat → Prop) (U : State) (H : Heap), G A U H → gC A U H) (hGF : ∀ (A : Nat → Prop) (U : State) (H : Heap), G A U H → gF A U H) (adK adV : Nat → Nat) (hGK : ∀ (A : Nat → Prop) (U : State) (H : Heap), G A U H → gK adK adV A U H) (S : PS) (a0 : Nat) (post : Int32 → PS → Prop) (sz : Nat) (hf : f_X5_kindByLetter adK S a0 post) : p_Mi l D cy G S sz yX5_kindByLetter (Cond.code yX5_kindByLetter cX5_kindByLetter 3 (some .int) :: wG) rm_X5_kindByLetter [.ref a0] 0 0 post := by
  refine q_start hG (Qc := fun A => va_Qi post (p_Post D cy A) A) mf_X5_kindByLetter (Nat.le_of_ble_eq_true rfl) (own := RX5) rfl ?_
  intro p e s m below meth c A X hr hlk hnm ls hl hH
  have hx := X.1.1
  have hb := X.1.2.1
  replace hl : lv_has ls 3 [(0, .ref a0)] := hl
  obtain ⟨H, hHe⟩ : ∃ H, H = s.heap := ⟨_, rfl⟩
  obtain ⟨locs, hlo⟩ : ∃ locs : List Loc, locs = [] := ⟨_, rfl⟩
  rw [← hHe, ← hlo] at hH
  show W p l e rm_X5_kindByLetter s m [.ref a0].toArray below meth c s.heap [] 0 0 _ _
  rw [← hHe, ← hlo]
  have hL2 : ∀ (n2 : Nat) (S : PS) (l0 : Nat) (l1 : Int32), f_X5_kindByLetter_L2 adK post n2 S l0 l1 → ∀ (H : Heap) (locs : List Loc) (ls : Array Slot), p_H D cy S A s H locs → lv_has ls 3 [(0, .ref l0), (1, .int l1)] → W p l e rm_X5_kindByLetter s m [.ref a0].toArray below meth c H locs 0 0 (MQ below (va_Qi post (p_Post D cy A) A) [.ref a0].toArray s 0 0 A) (F0 m 2 ls []) := by
    intro n2
    induction n2 with
    | zero => intro S l0 l1 hf; exact hf.elim
    | succ n2 ih2 =>
      intro S l0 l1 hf H locs ls hH hl
      have hJ34 : ∀ (S : PS) (l0 : Nat) (l1 : Int32), f_X5_kindByLetter_J34 adK post (f_X5_kindByLetter_L2 adK post n2) S l0 l1 → ∀ (H : Heap) (locs : List Loc) (ls : Array Slot), p_H D cy S A s H locs → lv_has ls 3 [(0, .ref l0), (1, .int l1)] → W p l e rm_X5_kindByLetter s m [.ref a0].toArray below meth c H locs 0 0 (MQ below (va_Qi post (p_Post D cy A) A) [.ref a0].toArray s 0 0 A) (F0 m 34 ls []) := by
        intro S l0 l1 hf H locs ls hH hl
        refine lv_iinc (v := l1 + 1) (lv' := [(1, .int (l1 + 1)), (0, .ref l0)]) hx hb dX5_kindByLetter_34 hl (k := 1) rfl rfl (by decide) rfl (fun ls hl => ?_)
        refine lv_goto (tgt := 2) hx hb dX5_kindByLetter_37 (by decide) ?_
        exact ih2 S l0 (l1 + 1) hf H locs ls hH (lv_sub hl [1, 0] rfl)
      refine lv_iload_n hx hb dX5_kindByLetter_2 rfl (lv_at hl 1 rfl) ?_
      refine lv_bipush (v := 6) hx hb dX5_kindByLetter_3 (by decide) ?_
      refine lv_icmp_gt (tgt := 40) hx hb dX5_kindByLetter_5 (by decide) (fun c1 => ?_) (fun c1 => ?_)
      · have hf := (if_pos c1).mp hf
        refine lv_iconst (v := (-1)) hx hb dX5_kindByLetter_40 (by decide) ?_
        exact q_retI X hH hr hlk hf (Nat.zero_le _) (Nat.zero_le _) dX5_kindByLetter_41
      · have hf := (if_neg c1).mp hf
        refine lv_iload_n hx hb dX5_kindByLetter_8 rfl (lv_at hl 1 rfl) ?_
        refine q_backR0 X hH (q_runS [.int l1] [] X hH hl (c_X5_formOf l D cy G X.2.2.2.1 adK adV hGK S l1 _ _ hf) mf_X5_formOf tw_1400 tw_1399 ⟨Nat.le_of_ble_eq_true rfl, Nat.le_of_ble_eq_true rfl⟩ rfl (Nat.le_of_ble_eq_true rfl) dX5_kindByLetter_9 ⟨Nat.le_of_ble_eq_true rfl, Nat.le_of_ble_eq_true rfl⟩) (fun v3 S2 hf H locs hH => ?_)
        refine lv_astore_n (lv' := [(2, .ref v3), (0, .ref l0), (1, .int l1)]) hx hb dX5_kindByLetter_12 rfl hl (by decide) rfl (fun ls hl => ?_)
        refine lv_aload_n hx hb dX5_kindByLetter_13 rfl (lv_at hl 0 rfl) ?_
        obtain ⟨k6, hk6, hek6, hf⟩ := hf
        refine q_backI0 X hH (q_runK [] [] X hH hl (c_J0_isEmpty_aae02 l D cy G X.2.2.2.1 adK adV hGK S2 v3 _ _ hf) mf_J0_isEmpty_aae02 mv_J0_isEmpty_aae02 tw_1409 ⟨Nat.le_of_ble_eq_true rfl, Nat.le_of_ble_eq_true rfl⟩ (hGK _ _ _ X.2.2.2.2) hk6 hek6 rfl rfl (Nat.le_of_ble_eq_true rfl) dX5_kindByLetter_14 ⟨Nat.le_of_ble_eq_true rfl, Nat.le_of_ble_eq_true rfl⟩) (fun v5 S4 hf H locs hH => ?_)
        refine lv_if_ne (tgt := 34) hx hb dX5_kindByLetter_17 (by decide) (fun c7 => ?_) (fun c7 => ?_)
        · have hf := (if_neg c7).mp hf
          exact hJ34 S4 l0 l1 hf H locs ls hH (lv_sub hl [1, 2] rfl)
        · have hf := (if_pos c7).mp hf
          refine lv_aload_n hx hb dX5_kindByLetter_20 rfl (lv_at hl 1 rfl) ?_
          refine lv_aload_n hx hb dX5_kindByLetter_21 rfl (lv_at hl 0 rfl) ?_
          refine lv_iconst (v := 0) hx hb dX5_kindByLetter_22 (by decide) ?_
          obtain ⟨k10, hk10, hek10, hf⟩ := hf
          refine q_backI0 X hH (q_runK [.int 0] [.ref l0] X hH hl (c_J0_charAt_5068e l D cy G X.2.2.2.1 hGC hGF adK adV hGK S4 v3 0 _ _ hf) mf_J0_charAt_5068e mv_J0_charAt_5068e tw_1413 ⟨Nat.le_of_ble_eq_true rfl, Nat.le_of_ble_eq_true rfl⟩ (hGK _ _ _ X.2.2.2.2) hk10 hek10 rfl rfl (Nat.le_of_ble_eq_true rfl) dX5_kindByLetter_23 ⟨Nat.le_of_ble_eq_true rfl, Nat.le_of_ble_eq_true rfl⟩) (fun v9 S8 hf H locs hH => ?_)
          obtain ⟨hb1, hb2, hf⟩ := hf
          refine q_backI0 X hH (q_runV [.int v9] [] X hH hl (c_X5_isNext l D cy G X.2.2.2.1 hGF S8 l0 v9 _ _ hf) mf_X5_isNext mv_X5_isNext tw_1428 ⟨Nat.le_of_ble_eq_true rfl, Nat.le_of_ble_eq_true rfl⟩ hb1 hb2 (T := TX5) (N := 7) rfl rfl (Nat.le_of_ble_eq_true rfl) dX5_kindByLetter_26 ⟨Nat.le_of_ble_eq_true rfl, Nat.le_of_ble_eq_true rfl⟩) (fun v12 S11 hf H locs hH => ?_)
          refine lv_if_eq (tgt := 34) hx hb dX5_kindByLetter_29 (by decide) (fun c13 => ?_) (fun c13 => ?_)
          · have hf := (if_pos c13).mp hf
            exact hJ34 S11 l0 l1 hf H locs ls hH (lv_sub hl [1, 2] rfl)
          · have hf := (if_neg c13).mp hf
            refine lv_iload_n hx hb dX5_kindByLetter_32 rfl (lv_at hl 2 rfl) ?_
            exact q_retI X hH hr hlk hf (Nat.zero_le _) (Nat.zero_le _) dX5_kindByLetter_33
  refine lv_iconst (v := 0) hx hb dX5_kindByLetter_0 (by decide) ?_
  refine lv_istore_n (lv' := [(1, .int 0), (0, .ref a0)]) hx hb dX5_kindByLetter_1 rfl hl (by decide) rfl (fun ls hl => ?_)
  exact hL2 4096 S a0 0 hf H locs ls hH (lv_sub hl [1, 0] rfl)
-- X5_takesDigits
def f_X5_takesDigits_J49 (post : Int32 → PS → Prop) (S : PS) (l0 : Nat) (l2 : Int32) (l3 : Int32) : Prop :=
  gI S l0 9 3 fun v1 => (
  gI S l0 9 4 fun v2 => (
  gI S l0 9 5 fun v3 => (
  if v3 = l2 then
    nZ .boolean 0 (post 0 S)
  else
    if ((v1 * 3) + v2) < 0 then
      nZ .boolean 0 (post 0 S)
    else
      gR S l0 9 2 fun v6 => (
      lE S v6 fun v7 => (
      if ((v1 * 3) + v2) < v7 then
        gR S l0 9 2 fun v9 => (
        sI S v9 0 ((v1 * 3) + v2) l3 fun S10 => (
        gI S10 l0 9 4 fun v11 => (
        pV S10 l0 9 4 (.int (v11 + 1)) fun S12 => (
        nZ .boolean 1 (post 1 S12)))))
      else
        nZ .boolean 0 (post 0 S))))))
def f_X5_takesDigits_L10 (post : Int32 → PS → Prop) : Nat → PS → Nat → Int32 → Int32 → Int32 → Int32 → Prop
  | 0, _, _, _, _, _, _ => False
  | n + 1, S, l0, l1, l2, l3, l4 =>
  if l1 ≤ l4 then
    f_X5_takesDigits_J49 post S l0 l2 l3
  else
    isO S l0 9 (
    f_X5_nextDigit S l0 fun v3 S2 => (
    if v3 < 0 then
      f_X5_takesDigits_J49 post S2 l0 l2 l3
    else
      isO S2 l0 9 (
      f_X5_nextDigit S2 l0 fun v6 S5 => (
      gI S5 l0 9 5 fun v7 => (
      pV S5 l0 9 5 (.int (v7 + 1)) fun S8 => (
      (f_X5_takesDigits_L10 post n) S8 l0 l1 l2 (((10 : Int32) * l3) + v6) (l4 + 1)))))))
def f_X5_takesDigits (S : PS) (a0 : Nat) (a1 : Int32) (post : Int32 → PS → Prop) : Prop :=
  gI S a0 9 5 fun v1 => (
  f_X5_takesDigits_L10 post 4096 S a0 a1 v1 0 0)
abbrev rm_X5_takesDigits : Room := { frames := 5, cells := 0, slots := 0, locals := 109 }
set_option maxHeartbeats 4000000 in
set_option maxRecDepth 100000 in
theorem c_X5_takesDigits (l : Launch) (D : va_G) (cy : Nat → ClassId) (G : p_GT) (hG : p_ok G) (hGF : ∀ (A : Nat → Prop) (U : State) (H : Heap), G A U H → gF A U H) (S : PS) (a0 : Nat) (a1 : Int32) (post : Int32 → PS → Prop) (sz : Nat) (hf : f_X5_takesDigits S a0 a1 post) : p_Mi l D cy G S sz yX5_takesDigits (Cond.code yX5_takesDigits cX5_takesDigits 5 (some .boolean) :: wG) rm_X5_takesDigits [.ref a0, .int a1] 0 0 post := by
  refine q_start hG (Qc := fun A => va_Qi post (p_Post D cy A) A) mf_X5_takesDigits (Nat.le_of_ble_eq_true rfl) (own := RX5) rfl ?_
  intro p e s m below meth c A X hr hlk hnm ls hl hH
  have hx := X.1.1
  have hb := X.1.2.1
  replace hl : lv_has ls 5 [(0, .ref a0), (1, .int a1)] := hl
  obtain ⟨H, hHe⟩ : ∃ H, H = s.heap := ⟨_, rfl⟩
  obtain ⟨locs, hlo⟩ : ∃ locs : List Loc, locs = [] := ⟨_, rfl⟩
  rw [← hHe, ← hlo] at hH
  show W p l e rm_X5_takesDigits s m [.ref a0, .int a1].toArray below meth c s.heap [] 0 0 _ _
  rw [← hHe, ← hlo]
  have hL10 : ∀ (n10 : Nat) (S : PS) (l0 : Nat) (l1 : Int32) (l2 : Int32) (l3 : Int32) (l4 : Int32), f_X5_takesDigits_L10 post n10 S l0 l1 l2 l3 l4 → ∀ (H : Heap) (locs : List Loc) (ls : Array Slot), p_H D cy S A s H locs → lv_has ls 5 [(0, .ref l0), (1, .int l1), (2, .int l2), (3, .int l3), (4, .int l4)] → W p l e rm_X5_takesDigits s m [.ref a0, .int a1].toArray below meth c H locs 0 0 (MQ below (va_Qi post (p_Post D cy A) A) [.ref a0, .int a1].toArray s 0 0 A) (F0 m 10 ls []) := by
    intro n10
    induction n10 with
    | zero => intro S l0 l1 l2 l3 l4 hf; exact hf.elim
    | succ n10 ih10 =>
      intro S l0 l1 l2 l3 l4 hf H locs ls hH hl
      have hJ49 : ∀ (S : PS) (l0 : Nat) (l2 : Int32) (l3 : Int32), f_X5_takesDigits_J49 post S l0 l2 l3 → ∀ (H : Heap) (locs : List Loc) (ls : Array Slot), p_H D cy S A s H locs → lv_has ls 5 [(0, .ref l0), (2, .int l2), (3, .int l3)] → W p l e rm_X5_takesDigits s m [.ref a0, .int a1].toArray below meth c H locs 0 0 (MQ below (va_Qi post (p_Post D cy A) A) [.ref a0, .int a1].toArray s 0 0 A) (F0 m 49 ls []) := by
        intro S l0 l2 l3 hf H locs ls hH hl
        refine lv_aload_n hx hb dX5_takesDigits_49 rfl (lv_at hl 0 rfl) ?_
        refine q_getI (T := TX5) (N := 7) X hH hf iw_X5 rfl (by decide) tw_279 (fun _ h => h) dX5_takesDigits_50 (fun v1 hf => ?_)
        refine lv_iconst (v := 3) hx hb dX5_takesDigits_53 (by decide) ?_
        refine lv_imul hx hb dX5_takesDigits_54 ?_
        refine lv_aload_n hx hb dX5_takesDigits_55 rfl (lv_at hl 0 rfl) ?_
        refine q_getI (T := TX5) (N := 7) X hH hf iw_X5 rfl (by decide) tw_280 (fun _ h => h) dX5_takesDigits_56 (fun v2 hf => ?_)
        refine lv_iadd hx hb dX5_takesDigits_59 ?_
        refine lv_istore (lv' := [(4, .int ((v1 * 3) + v2)), (0, .ref l0), (2, .int l2), (3, .int l3)]) hx hb dX5_takesDigits_60 hl (by decide) rfl (fun ls hl => ?_)
        refine lv_aload_n hx hb dX5_takesDigits_62 rfl (lv_at hl 1 rfl) ?_
        refine q_getI (T := TX5) (N := 7) X hH hf iw_X5 rfl (by decide) tw_281 (fun _ h => h) dX5_takesDigits_63 (fun v3 hf => ?_)
        refine lv_iload_n hx hb dX5_takesDigits_66 rfl (lv_at hl 2 rfl) ?_
        refine lv_icmp_eq (tgt := 85) hx hb dX5_takesDigits_67 (by decide) (fun c4 => ?_) (fun c4 => ?_)
        · have hf := (if_pos c4).mp hf
          refine lv_iconst (v := 0) hx hb dX5_takesDigits_85 (by decide) ?_
          exact q_retZ X hH hr hlk hf (Nat.zero_le _) (Nat.zero_le _) dX5_takesDigits_86
        · have hf := (if_neg c4).mp hf
          refine lv_iload hx hb dX5_takesDigits_70 (lv_at hl 0 rfl) ?_
          refine lv_if_lt (tgt := 85) hx hb dX5_takesDigits_72 (by decide) (fun c5 => ?_) (fun c5 => ?_)
          · have hf := (if_pos c5).mp hf
            refine lv_iconst (v := 0) hx hb dX5_takesDigits_85 (by decide) ?_
            exact q_retZ X hH hr hlk hf (Nat.zero_le _) (Nat.zero_le _) dX5_takesDigits_86
          · have hf := (if_neg c5).mp hf
            refine lv_iload hx hb dX5_takesDigits_75 (lv_at hl 0 rfl) ?_
            refine lv_aload_n hx hb dX5_takesDigits_77 rfl (lv_at hl 1 rfl) ?_
            refine q_getR (T := TX5) (N := 7) X hH hf iw_X5 rfl (by decide) tw_278 (fun _ h => h) dX5_takesDigits_78 (fun v6 hf => ?_)
            refine q_alen X hH hf dX5_takesDigits_81 (fun v7 hf => ?_)
            refine lv_icmp_lt (tgt := 87) hx hb dX5_takesDigits_82 (by decide) (fun c8 => ?_) (fun c8 => ?_)
            · have hf := (if_pos c8).mp hf
              refine lv_aload_n hx hb dX5_takesDigits_87 rfl (lv_at hl 1 rfl) ?_
              refine q_getR (T := TX5) (N := 7) X hH hf iw_X5 rfl (by decide) tw_278 (fun _ h => h) dX5_takesDigits_88 (fun v9 hf => ?_)
              refine lv_iload hx hb dX5_takesDigits_91 (lv_at hl 0 rfl) ?_
              refine lv_iload_n hx hb dX5_takesDigits_93 rfl (lv_at hl 3 rfl) ?_
              refine q_iast X hH hf dX5_takesDigits_94 (fun S10 hf H locs hH => ?_)
              refine lv_aload_n hx hb dX5_takesDigits_95 rfl (lv_at hl 1 rfl) ?_
              refine lv_dup hx hb dX5_takesDigits_96 rfl ?_
              refine q_getI (T := TX5) (N := 7) X hH hf iw_X5 rfl (by decide) tw_280 (fun _ h => h) dX5_takesDigits_97 (fun v11 hf => ?_)
              refine lv_iconst (v := 1) hx hb dX5_takesDigits_100 (by decide) ?_
              refine lv_iadd hx hb dX5_takesDigits_101 ?_
              refine q_putV (T := TX5) (N := 7) (ty0 := tyX5) (ty := tyX5 4) X hH hf iw_X5 tyX5_ok nmX5 rfl (by decide) tw_280 (fun _ h => h) rfl (tyX5_ok 4 (by decide)) rfl rfl dX5_takesDigits_102 (fun S12 hf H locs hH => ?_)
              refine lv_iconst (v := 1) hx hb dX5_takesDigits_105 (by decide) ?_
              exact q_retZ X hH hr hlk hf (Nat.zero_le _) (Nat.zero_le _) dX5_takesDigits_106
            · have hf := (if_neg c8).mp hf
              refine lv_iconst (v := 0) hx hb dX5_takesDigits_85 (by decide) ?_
              exact q_retZ X hH hr hlk hf (Nat.zero_le _) (Nat.zero_le _) dX5_takesDigits_86
      refine lv_iload hx hb dX5_takesDigits_10 (lv_at hl 4 rfl) ?_
      refine lv_iload_n hx hb dX5_takesDigits_12 rfl (lv_at hl 1 rfl) ?_
      refine lv_icmp_ge (tgt := 49) hx hb dX5_takesDigits_13 (by decide) (fun c1 => ?_) (fun c1 => ?_)
      · have hf := (if_pos c1).mp hf
        exact hJ49 S l0 l2 l3 hf H locs ls hH (lv_sub hl [0, 2, 3] rfl)
      · have hf := (if_neg c1).mp hf
        refine lv_aload_n hx hb dX5_takesDigits_16 rfl (lv_at hl 0 rfl) ?_
        obtain ⟨hb1, hb2, hf⟩ := hf
        refine q_backI0 X hH (q_runV [] [] X hH hl (c_X5_nextDigit l D cy G X.2.2.2.1 hGF S l0 _ _ hf) mf_X5_nextDigit mv_X5_nextDigit tw_1451 ⟨Nat.le_of_ble_eq_true rfl, Nat.le_of_ble_eq_true rfl⟩ hb1 hb2 (T := TX5) (N := 7) rfl rfl (Nat.le_of_ble_eq_true rfl) dX5_takesDigits_17 ⟨Nat.le_of_ble_eq_true rfl, Nat.le_of_ble_eq_true rfl⟩) (fun v3 S2 hf H locs hH => ?_)
        refine lv_if_lt (tgt := 49) hx hb dX5_takesDigits_20 (by decide) (fun c4 => ?_) (fun c4 => ?_)
        · have hf := (if_pos c4).mp hf
          exact hJ49 S2 l0 l2 l3 hf H locs ls hH (lv_sub hl [0, 2, 3] rfl)
        · have hf := (if_neg c4).mp hf
          refine lv_bipush (v := 10) hx hb dX5_takesDigits_23 (by decide) ?_
          refine lv_iload_n hx hb dX5_takesDigits_25 rfl (lv_at hl 3 rfl) ?_
          refine lv_imul hx hb dX5_takesDigits_26 ?_
          refine lv_aload_n hx hb dX5_takesDigits_27 rfl (lv_at hl 0 rfl) ?_
          obtain ⟨hb1, hb2, hf⟩ := hf
          refine q_backI0 X hH (q_runV [] [.int ((10 : Int32) * l3)] X hH hl (c_X5_nextDigit l D cy G X.2.2.2.1 hGF S2 l0 _ _ hf) mf_X5_nextDigit mv_X5_nextDigit tw_1451 ⟨Nat.le_of_ble_eq_true rfl, Nat.le_of_ble_eq_true rfl⟩ hb1 hb2 (T := TX5) (N := 7) rfl rfl (Nat.le_of_ble_eq_true rfl) dX5_takesDigits_28 ⟨Nat.le_of_ble_eq_true rfl, Nat.le_of_ble_eq_true rfl⟩) (fun v6 S5 hf H locs hH => ?_)
          refine lv_iadd hx hb dX5_takesDigits_31 ?_
          refine lv_istore_n (lv' := [(3, .int (((10 : Int32) * l3) + v6)), (0, .ref l0), (1, .int l1), (2, .int l2), (4, .int l4)]) hx hb dX5_takesDigits_32 rfl hl (by decide) rfl (fun ls hl => ?_)
          refine lv_aload_n hx hb dX5_takesDigits_33 rfl (lv_at hl 1 rfl) ?_
          refine lv_dup hx hb dX5_takesDigits_34 rfl ?_
          refine q_getI (T := TX5) (N := 7) X hH hf iw_X5 rfl (by decide) tw_281 (fun _ h => h) dX5_takesDigits_35 (fun v7 hf => ?_)
          refine lv_iconst (v := 1) hx hb dX5_takesDigits_38 (by decide) ?_
          refine lv_iadd hx hb dX5_takesDigits_39 ?_
          refine q_putV (T := TX5) (N := 7) (ty0 := tyX5) (ty := tyX5 5) X hH hf iw_X5 tyX5_ok nmX5 rfl (by decide) tw_281 (fun _ h => h) rfl (tyX5_ok 5 (by decide)) rfl rfl dX5_takesDigits_40 (fun S8 hf H locs hH => ?_)
          refine lv_iinc (v := l4 + 1) (lv' := [(4, .int (l4 + 1)), (3, .int (((10 : Int32) * l3) + v6)), (0, .ref l0), (1, .int l1), (2, .int l2)]) hx hb dX5_takesDigits_43 hl (k := 4) rfl rfl (by decide) rfl (fun ls hl => ?_)
          refine lv_goto (tgt := 10) hx hb dX5_takesDigits_46 (by decide) ?_
          exact ih10 S8 l0 l1 l2 (((10 : Int32) * l3) + v6) (l4 + 1) hf H locs ls hH (lv_sub hl [2, 3, 4, 1, 0] rfl)
  refine lv_aload_n hx hb dX5_takesDigits_0 rfl (lv_at hl 0 rfl) ?_
  refine q_getI (T := TX5) (N := 7) X hH hf iw_X5 rfl (by decide) tw_281 (fun _ h => h) dX5_takesDigits_1 (fun v1 hf => ?_)
  refine lv_istore_n (lv' := [(2, .int v1), (0, .ref a0), (1, .int a1)]) hx hb dX5_takesDigits_4 rfl hl (by decide) rfl (fun ls hl => ?_)
  refine lv_iconst (v := 0) hx hb dX5_takesDigits_5 (by decide) ?_
  refine lv_istore_n (lv' := [(3, .int 0), (2, .int v1), (0, .ref a0), (1, .int a1)]) hx hb dX5_takesDigits_6 rfl hl (by decide) rfl (fun ls hl => ?_)
  refine lv_iconst (v := 0) hx hb dX5_takesDigits_7 (by decide) ?_
  refine lv_istore (lv' := [(4, .int 0), (3, .int 0), (2, .int v1), (0, .ref a0), (1, .int a1)]) hx hb dX5_takesDigits_8 hl (by decide) rfl (fun ls hl => ?_)
  exact hL10 4096 S a0 a1 v1 0 0 hf H locs ls hH (lv_sub hl [3, 4, 2, 1, 0] rfl)
-- X5_takesSign
def f_X5_takesSign (S : PS) (a0 : Nat) (a1 : Int32) (post : Int32 → PS → Prop) : Prop :=
  isO S a0 9 (
  f_X5_isNext S a0 a1 fun v2 S1 => (
  if v2 = 0 then
    nZ .boolean v2 (post v2 S1)
  else
    gI S1 a0 9 5 fun v4 => (
    pV S1 a0 9 5 (.int (v4 + 1)) fun S5 => (
    nZ .boolean v2 (post v2 S5)))))
abbrev rm_X5_takesSign : Room := { frames := 5, cells := 0, slots := 0, locals := 109 }
set_option maxHeartbeats 4000000 in
set_option maxRecDepth 100000 in
theorem c_X5_takesSign (l : Launch) (D : va_G) (cy : Nat → ClassId) (G : p_GT) (hG : p_ok G) (hGF : ∀ (A : Nat → Prop) (U : State) (H : Heap), G A U H → gF A U H) (S : PS) (a0 : Nat) (a1 : Int32) (post : Int32 → PS → Prop) (sz : Nat) (hf : f_X5_takesSign S a0 a1 post) : p_Mi l D cy G S sz yX5_takesSign (Cond.code yX5_takesSign cX5_takesSign 3 (some .boolean) :: wG) rm_X5_takesSign [.ref a0, .int a1] 0 0 post := by
  refine q_start hG (Qc := fun A => va_Qi post (p_Post D cy A) A) mf_X5_takesSign (Nat.le_of_ble_eq_true rfl) (own := RX5) rfl ?_
  intro p e s m below meth c A X hr hlk hnm ls hl hH
  have hx := X.1.1
  have hb := X.1.2.1
  replace hl : lv_has ls 3 [(0, .ref a0), (1, .int a1)] := hl
  obtain ⟨H, hHe⟩ : ∃ H, H = s.heap := ⟨_, rfl⟩
  obtain ⟨locs, hlo⟩ : ∃ locs : List Loc, locs = [] := ⟨_, rfl⟩
  rw [← hHe, ← hlo] at hH
  show W p l e rm_X5_takesSign s m [.ref a0, .int a1].toArray below meth c s.heap [] 0 0 _ _
  rw [← hHe, ← hlo]
  refine lv_aload_n hx hb dX5_takesSign_0 rfl (lv_at hl 0 rfl) ?_
  refine lv_iload_n hx hb dX5_takesSign_1 rfl (lv_at hl 1 rfl) ?_
  obtain ⟨hb1, hb2, hf⟩ := hf
  refine q_backI0 X hH (q_runV [.int a1] [] X hH hl (c_X5_isNext l D cy G X.2.2.2.1 hGF S a0 a1 _ _ hf) mf_X5_isNext mv_X5_isNext tw_1428 ⟨Nat.le_of_ble_eq_true rfl, Nat.le_of_ble_eq_true rfl⟩ hb1 hb2 (T := TX5) (N := 7) rfl rfl (Nat.le_of_ble_eq_true rfl) dX5_takesSign_2 ⟨Nat.le_of_ble_eq_true rfl, Nat.le_of_ble_eq_true rfl⟩) (fun v2 S1 hf H locs hH => ?_)
  refine lv_istore_n (lv' := [(2, .int v2), (0, .ref a0), (1, .int a1)]) hx hb dX5_takesSign_5 rfl hl (by decide) rfl (fun ls hl => ?_)
  refine lv_iload_n hx hb dX5_takesSign_6 rfl (lv_at hl 0 rfl) ?_
  refine lv_if_eq (tgt := 20) hx hb dX5_takesSign_7 (by decide) (fun c3 => ?_) (fun c3 => ?_)
  · have hf := (if_pos c3).mp hf
    refine lv_iload_n hx hb dX5_takesSign_20 rfl (lv_at hl 0 rfl) ?_
    exact q_retZ X hH hr hlk hf (Nat.zero_le _) (Nat.zero_le _) dX5_takesSign_21
  · have hf := (if_neg c3).mp hf
    refine lv_aload_n hx hb dX5_takesSign_10 rfl (lv_at hl 1 rfl) ?_
    refine lv_dup hx hb dX5_takesSign_11 rfl ?_
    refine q_getI (T := TX5) (N := 7) X hH hf iw_X5 rfl (by decide) tw_281 (fun _ h => h) dX5_takesSign_12 (fun v4 hf => ?_)
    refine lv_iconst (v := 1) hx hb dX5_takesSign_15 (by decide) ?_
    refine lv_iadd hx hb dX5_takesSign_16 ?_
    refine q_putV (T := TX5) (N := 7) (ty0 := tyX5) (ty := tyX5 5) X hH hf iw_X5 tyX5_ok nmX5 rfl (by decide) tw_281 (fun _ h => h) rfl (tyX5_ok 5 (by decide)) rfl rfl dX5_takesSign_17 (fun S5 hf H locs hH => ?_)
    refine lv_iload_n hx hb dX5_takesSign_20 rfl (lv_at hl 0 rfl) ?_
    exact q_retZ X hH hr hlk hf (Nat.zero_le _) (Nat.zero_le _) dX5_takesSign_21
-- X7_least
def f_X7_least (S : PS) (a0 : Nat) (bc bs : Nat) (post : Int32 → PS → Prop) (postX : String → PS → Prop) : Prop :=
  isO S a0 11 (
  f_X7_isTooSmall S a0 fun v2 S1 => (
  if v2 = 0 then
    gR S1 a0 11 0 fun v4 => (
    isO S1 a0 11 (
    f_X7_leastByPhases S1 a0 v4 fun v6 S5 => (
    post v6 S5)))
  else
    tX S1 "java/util/NoSuchElementException" bc bs postX))
abbrev rm_X7_least (mc ms : Nat) : Room := { frames := 6, cells := mc, slots := ms, locals := 115 }
set_option maxHeartbeats 4000000 in
set_option maxRecDepth 100000 in
theorem c_X7_least (l : Launch) (D : va_G) (cy : Nat → ClassId) (G : p_GT) (hG : p_ok G) (hst : l.stackTraces = false) (hGE : ∀ (A : Nat → Prop) (U : State) (H : Heap), G A U H → p_Ex A U H) (S : PS) (a0 : Nat) (mc ms : Nat) (post : Int32 → PS → Prop) (postX : String → PS → Prop) (sz : Nat) (hf : f_X7_least S a0 mc ms post postX) : p_Xi l D cy G S sz yX7_least (Cond.code yX7_least cX7_least 1 (some .int) :: wG) (rm_X7_least mc ms) [.ref a0] mc ms post postX := by
  refine q_startX hG (Qc := fun A => va_Qi post (p_Post D cy A) A) (XC := fun A => p_XC D cy A postX) mf_X7_least (Nat.le_of_ble_eq_true rfl) (own := RX7) rfl ?_
  intro p e s m below meth c A X hr hlk hnm htab ls hl hH
  have hx := X.1.1
  have hb := X.1.2.1
  replace hl : lv_has ls 1 [(0, .ref a0)] := hl
  have main : ∀ (H : Heap) (locs : List Loc) (ls : Array Slot) (cells slots bc bs : Nat), f_X7_least S a0 bc bs post postX → p_H D cy S A s H locs → lv_has ls 1 [(0, .ref a0)] → cells + bc ≤ mc ∧ slots + bs ≤ ms → W p l e (rm_X7_least mc ms) s m [.ref a0].toArray below meth c H locs cells slots (vx_MQ below (va_Qi post (p_Post D cy A) A) (p_XC D cy A postX) [.ref a0].toArray s mc ms A) (F0 m 0 ls []) := by
    intro H locs ls cells slots bc bs hf hH hl hB
    refine lv_aload_n hx hb dX7_least_0 rfl (lv_at hl 0 rfl) ?_
    obtain ⟨hb1, hb2, hf⟩ := hf
    refine q_backI0 X hH (q_runV [] [] X hH hl (c_X7_isTooSmall l D cy G X.2.2.2.1 S a0 _ _ hf) mf_X7_isTooSmall mv_X7_isTooSmall tw_427 ⟨Nat.le_of_ble_eq_true rfl, Nat.le_of_ble_eq_true rfl⟩ hb1 hb2 (T := TX7) (N := 12) rfl rfl (Nat.le_of_ble_eq_true rfl) dX7_least_1 ⟨Nat.le_trans (Nat.le_add_right _ _) hB.1, Nat.le_trans (Nat.le_add_right _ _) hB.2⟩) (fun v2 S1 hf H locs hH => ?_)
    refine lv_if_eq (tgt := 17) hx hb dX7_least_4 (by decide) (fun c3 => ?_) (fun c3 => ?_)
    · have hf := (if_pos c3).mp hf
      refine lv_aload_n hx hb dX7_least_17 rfl (lv_at hl 0 rfl) ?_
      refine lv_aload_n hx hb dX7_least_18 rfl (lv_at hl 0 rfl) ?_
      refine q_getR (T := TX7) (N := 12) X hH hf iw_X7 rfl (by decide) tw_319 (fun _ h => h) dX7_least_19 (fun v4 hf => ?_)
      obtain ⟨hb1, hb2, hf⟩ := hf
      refine q_backI0 X hH (q_runV [.ref v4] [] X hH hl (c_X7_leastByPhases l D cy G X.2.2.2.1 S1 a0 v4 _ _ hf) mf_X7_leastByPhases mv_X7_leastByPhases tw_435 ⟨Nat.le_of_ble_eq_true rfl, Nat.le_of_ble_eq_true rfl⟩ hb1 hb2 (T := TX7) (N := 12) rfl rfl (Nat.le_of_ble_eq_true rfl) dX7_least_22 ⟨Nat.le_trans (Nat.le_add_right _ _) hB.1, Nat.le_trans (Nat.le_add_right _ _) hB.2⟩) (fun v6 S5 hf H locs hH => ?_)
      exact vx_ret (q_retI X hH hr hlk hf (Nat.le_trans (Nat.le_add_right _ _) hB.1) (Nat.le_trans (Nat.le_add_right _ _) hB.2) dX7_least_25)
    · have hf := (if_neg c3).mp hf
      exact q_throwX (by decide +kernel) (by decide +kernel) (by decide +kernel) (by decide +kernel) X hH hl hB rfl rfl hst (hGE _ _ _ X.2.2.2.2) hf tw_1177 tw_114 (text := "there are fewer than two households") (List.mem_of_getElem? (i := 6) rfl) xa_NoSuchElementException xg_NoSuchElementException (by decide +kernel) (by decide +kernel) dX7_least_7 dX7_least_10 dX7_least_11 dX7_least_13 dX7_least_16 htab ⟨Nat.le_of_ble_eq_true rfl, Nat.le_of_ble_eq_true rfl⟩ (Nat.le_of_ble_eq_true rfl) hlk
  exact main s.heap [] ls 0 0 mc ms hf hH hl ⟨by omega, by omega⟩
-- X7_ifBond
def f_X7_ifBond_J22 (post : Int32 → PS → Prop) (postX : String → PS → Prop) (S : PS) (bc bs : Nat)  : Prop :=
  tX S "java/lang/IndexOutOfBoundsException" bc bs postX
def f_X7_ifBond_J57 (post : Int32 → PS → Prop) (postX : String → PS → Prop) (S : PS) (bc bs : Nat)  : Prop :=
  tX S "java/lang/IllegalArgumentException" bc bs postX
def f_X7_ifBond (S : PS) (a0 : Nat) (a1 : Int32) (a2 : Int32) (a3 : Int32) (bc bs : Nat) (post : Int32 → PS → Prop) (postX : String → PS → Prop) : Prop :=
  gR S a0 11 0 fun v1 => (
  isO S v1 10 (
  f_X6_has S v1 a1 fun v3 S2 => (
  if v3 = 0 then
    f_X7_ifBond_J22 post postX S2 bc bs
  else
    gR S2 a0 11 0 fun v5 => (
    isO S2 v5 10 (
    f_X6_has S2 v5 a2 fun v7 S6 => (
    if v7 = 0 then
      f_X7_ifBond_J22 post postX S6 bc bs
    else
      if a1 = a2 then
        tX S6 "java/lang/IllegalArgumentException" bc bs postX
      else
        if a3 < 0 then
          f_X7_ifBond_J57 post postX S6 bc bs
        else
          if a3 ≤ 99 then
            isO S6 a0 11 (
            f_X7_leastWith S6 a0 a1 a2 a3 fun v13 S12 => (
            post v13 S12))
          else
            f_X7_ifBond_J57 post postX S6 bc bs))))))
abbrev rm_X7_ifBond (mc ms : Nat) : Room := { frames := 6, cells := mc, slots := ms, locals := 138 }
set_option maxHeartbeats 4000000 in
set_option maxRecDepth 100000 in
theorem c_X7_ifBond (l : Launch) (D : va_G) (cy : Nat → ClassId) (G : p_GT) (hG : p_ok G) (hst : l.stackTraces = false) (hGE : ∀ (A : Nat → Prop) (U : State) (H : Heap), G A U H → p_Ex A U H) (S : PS) (a0 : Nat) (a1 : Int32) (a2 : Int32) (a3 : Int32) (mc ms : Nat) (post : Int32 → PS → Prop) (postX : String → PS → Prop) (sz : Nat) (hf : f_X7_ifBond S a0 a1 a2 a3 mc ms post postX) : p_Xi l D cy G S sz yX7_ifBond (Cond.code yX7_ifBond cX7_ifBond 4 (some .int) :: wG) (rm_X7_ifBond mc ms) [.ref a0, .int a1, .int a2, .int a3] mc ms post postX := by
  refine q_startX hG (Qc := fun A => va_Qi post (p_Post D cy A) A) (XC := fun A => p_XC D cy A postX) mf_X7_ifBond (Nat.le_of_ble_eq_true rfl) (own := RX7) rfl ?_
  intro p e s m below meth c A X hr hlk hnm htab ls hl hH
  have hx := X.1.1
  have hb := X.1.2.1
  replace hl : lv_has ls 4 [(0, .ref a0), (1, .int a1), (2, .int a2), (3, .int a3)] := hl
  have main : ∀ (H : Heap) (locs : List Loc) (ls : Array Slot) (cells slots bc bs : Nat), f_X7_ifBond S a0 a1 a2 a3 bc bs post postX → p_H D cy S A s H locs → lv_has ls 4 [(0, .ref a0), (1, .int a1), (2, .int a2), (3, .int a3)] → cells + bc ≤ mc ∧ slots + bs ≤ ms → W p l e (rm_X7_ifBond mc ms) s m [.ref a0, .int a1, .int a2, .int a3].toArray below meth c H locs cells slots (vx_MQ below (va_Qi post (p_Post D cy A) A) (p_XC D cy A postX) [.ref a0, .int a1, .int a2, .int a3].toArray s mc ms A) (F0 m 0 ls []) := by
    intro H locs ls cells slots bc bs hf hH hl hB
    have hJ22 : ∀ (S : PS) (bc bs : Nat), f_X7_ifBond_J22 post postX S bc bs → ∀ (H : Heap) (locs : List Loc) (ls : Array Slot) (cells slots : Nat), p_H D cy S A s H locs → lv_has ls 4 [] → cells + bc ≤ mc ∧ slots + bs ≤ ms → W p l e (rm_X7_ifBond mc ms) s m [.ref a0, .int a1, .int a2, .int a3].toArray below meth c H locs cells slots (vx_MQ below (va_Qi post (p_Post D cy A) A) (p_XC D cy A postX) [.ref a0, .int a1, .int a2, .int a3].toArray s mc ms A) (F0 m 22 ls []) := by
      intro S bc bs hf H locs ls cells slots hH hl hB
      exact q_throw X hH hl hB rfl rfl hst (hGE _ _ _ X.2.2.2.2) hf tw_1106 tw_111 (text := "there is no such household") (List.mem_of_getElem? (i := 1) rfl) xa_IndexOutOfBoundsException xg_IndexOutOfBoundsException (by decide +kernel) (by decide +kernel) dX7_ifBond_22 dX7_ifBond_25 dX7_ifBond_26 dX7_ifBond_28 dX7_ifBond_31 htab ⟨Nat.le_of_ble_eq_true rfl, Nat.le_of_ble_eq_true rfl⟩ (Nat.le_of_ble_eq_true rfl) hlk
    have hJ57 : ∀ (S : PS) (bc bs : Nat), f_X7_ifBond_J57 post postX S bc bs → ∀ (H : Heap) (locs : List Loc) (ls : Array Slot) (cells slots : Nat), p_H D cy S A s H locs → lv_has ls 4 [] → cells + bc ≤ mc ∧ slots + bs ≤ ms → W p l e (rm_X7_ifBond mc ms) s m [.ref a0, .int a1, .int a2, .int a3].toArray below meth c H locs cells slots (vx_MQ below (va_Qi post (p_Post D cy A) A) (p_XC D cy A postX) [.ref a0, .int a1, .int a2, .int a3].toArray s mc ms A) (F0 m 57 ls []) := by
      intro S bc bs hf H locs ls cells slots hH hl hB
      exact q_throw X hH hl hB rfl rfl hst (hGE _ _ _ X.2.2.2.2) hf tw_1134 tw_113 (text := "the weight is out of range") (List.mem_of_getElem? (i := 14) rfl) xa_IllegalArgumentException xg_IllegalArgumentException (by decide +kernel) (by decide +kernel) dX7_ifBond_57 dX7_ifBond_60 dX7_ifBond_61 dX7_ifBond_63 dX7_ifBond_66 htab ⟨Nat.le_of_ble_eq_true rfl, Nat.le_of_ble_eq_true rfl⟩ (Nat.le_of_ble_eq_true rfl) hlk
    refine lv_aload_n hx hb dX7_ifBond_0 rfl (lv_at hl 0 rfl) ?_
    refine q_getR (T := TX7) (N := 12) X hH hf iw_X7 rfl (by decide) tw_319 (fun _ h => h) dX7_ifBond_1 (fun v1 hf => ?_)
    refine lv_iload_n hx hb dX7_ifBond_4 rfl (lv_at hl 1 rfl) ?_
    obtain ⟨hb1, hb2, hf⟩ := hf
    refine q_backI0 X hH (q_runV [.int a1] [] X hH hl (c_X6_has l D cy G X.2.2.2.1 S v1 a1 _ _ hf) mf_X6_has mv_X6_has tw_973 ⟨Nat.le_of_ble_eq_true rfl, Nat.le_of_ble_eq_true rfl⟩ hb1 hb2 (T := TX6) (N := 6) rfl rfl (Nat.le_of_ble_eq_true rfl) dX7_ifBond_5 ⟨Nat.le_trans (Nat.le_add_right _ _) hB.1, Nat.le_trans (Nat.le_add_right _ _) hB.2⟩) (fun v3 S2 hf H locs hH => ?_)
    refine lv_if_eq (tgt := 22) hx hb dX7_ifBond_8 (by decide) (fun c4 => ?_) (fun c4 => ?_)
    · have hf := (if_pos c4).mp hf
      exact hJ22 S2 bc bs hf H locs ls cells slots hH (lv_sub hl [] rfl) hB
    · have hf := (if_neg c4).mp hf
      refine lv_aload_n hx hb dX7_ifBond_11 rfl (lv_at hl 0 rfl) ?_
      refine q_getR (T := TX7) (N := 12) X hH hf iw_X7 rfl (by decide) tw_319 (fun _ h => h) dX7_ifBond_12 (fun v5 hf => ?_)
      refine lv_iload_n hx hb dX7_ifBond_15 rfl (lv_at hl 2 rfl) ?_
      obtain ⟨hb1, hb2, hf⟩ := hf
      refine q_backI0 X hH (q_runV [.int a2] [] X hH hl (c_X6_has l D cy G X.2.2.2.1 S2 v5 a2 _ _ hf) mf_X6_has mv_X6_has tw_973 ⟨Nat.le_of_ble_eq_true rfl, Nat.le_of_ble_eq_true rfl⟩ hb1 hb2 (T := TX6) (N := 6) rfl rfl (Nat.le_of_ble_eq_true rfl) dX7_ifBond_16 ⟨Nat.le_trans (Nat.le_add_right _ _) hB.1, Nat.le_trans (Nat.le_add_right _ _) hB.2⟩) (fun v7 S6 hf H locs hH => ?_)
      refine lv_if_ne (tgt := 32) hx hb dX7_ifBond_19 (by decide) (fun c8 => ?_) (fun c8 => ?_)
      · have hf := (if_neg c8).mp hf
        refine lv_iload_n hx hb dX7_ifBond_32 rfl (lv_at hl 1 rfl) ?_
        refine lv_iload_n hx hb dX7_ifBond_33 rfl (lv_at hl 2 rfl) ?_
        refine lv_icmp_ne (tgt := 47) hx hb dX7_ifBond_34 (by decide) (fun c9 => ?_) (fun c9 => ?_)
        · have hf := (if_neg c9).mp hf
          refine lv_iload_n hx hb dX7_ifBond_47 rfl (lv_at hl 3 rfl) ?_
          refine lv_if_lt (tgt := 57) hx hb dX7_ifBond_48 (by decide) (fun c10 => ?_) (fun c10 => ?_)
          · have hf := (if_pos c10).mp hf
            exact hJ57 S6 bc bs hf H locs ls cells slots hH (lv_sub hl [] rfl) hB
          · have hf := (if_neg c10).mp hf
            refine lv_iload_n hx hb dX7_ifBond_51 rfl (lv_at hl 3 rfl) ?_
            refine lv_bipush (v := 99) hx hb dX7_ifBond_52 (by decide) ?_
            refine lv_icmp_le (tgt := 67) hx hb dX7_ifBond_54 (by decide) (fun c11 => ?_) (fun c11 => ?_)
            · have hf := (if_pos c11).mp hf
              refine lv_aload_n hx hb dX7_ifBond_67 rfl (lv_at hl 0 rfl) ?_
              refine lv_iload_n hx hb dX7_ifBond_68 rfl (lv_at hl 1 rfl) ?_
              refine lv_iload_n hx hb dX7_ifBond_69 rfl (lv_at hl 2 rfl) ?_
              refine lv_iload_n hx hb dX7_ifBond_70 rfl (lv_at hl 3 rfl) ?_
              obtain ⟨hb1, hb2, hf⟩ := hf
              refine q_backI0 X hH (q_runV [.int a1, .int a2, .int a3] [] X hH hl (c_X7_leastWith l D cy G X.2.2.2.1 S6 a0 a1 a2 a3 _ _ hf) mf_X7_leastWith mv_X7_leastWith tw_1277 ⟨Nat.le_of_ble_eq_true rfl, Nat.le_of_ble_eq_true rfl⟩ hb1 hb2 (T := TX7) (N := 12) rfl rfl (Nat.le_of_ble_eq_true rfl) dX7_ifBond_71 ⟨Nat.le_trans (Nat.le_add_right _ _) hB.1, Nat.le_trans (Nat.le_add_right _ _) hB.2⟩) (fun v13 S12 hf H locs hH => ?_)
              exact vx_ret (q_retI X hH hr hlk hf (Nat.le_trans (Nat.le_add_right _ _) hB.1) (Nat.le_trans (Nat.le_add_right _ _) hB.2) dX7_ifBond_74)
            · have hf := (if_neg c11).mp hf
              exact hJ57 S6 bc bs hf H locs ls cells slots hH (lv_sub hl [] rfl) hB
        · have hf := (if_pos c9).mp hf
          exact q_throw X hH hl hB rfl rfl hst (hGE _ _ _ X.2.2.2.2) hf tw_1134 tw_113 (text := "both are one household") (List.mem_of_getElem? (i := 12) rfl) xa_IllegalArgumentException xg_IllegalArgumentException (by decide +kernel) (by decide +kernel) dX7_ifBond_37 dX7_ifBond_40 dX7_ifBond_41 dX7_ifBond_43 dX7_ifBond_46 htab ⟨Nat.le_of_ble_eq_true rfl, Nat.le_of_ble_eq_true rfl⟩ (Nat.le_of_ble_eq_true rfl) hlk
      · have hf := (if_pos c8).mp hf
        exact hJ22 S6 bc bs hf H locs ls cells slots hH (lv_sub hl [] rfl) hB
  exact main s.heap [] ls 0 0 mc ms hf hH hl ⟨by omega, by omega⟩
-- X7_isCritical
def f_X7_isCritical_J22 (post : Int32 → PS → Prop) (postX : String → PS → Prop) (S : PS) (bc bs : Nat)  : Prop :=
  tX S "java/lang/IndexOutOfBoundsException" bc bs postX
def f_X7_isCritical_J49 (post : Int32 → PS → Prop) (postX : String → PS → Prop) (S : PS) (bc bs : Nat)  : Prop :=
  tX S "java/lang/IllegalStateException" bc bs postX
def f_X7_isCritical (S : PS) (a0 : Nat) (a1 : Int32) (a2 : Int32) (bc bs : Nat) (post : Int32 → PS → Prop) (postX : String → PS → Prop) : Prop :=
  gR S a0 11 0 fun v1 => (
  isO S v1 10 (
  f_X6_has S v1 a1 fun v3 S2 => (
  if v3 = 0 then
    f_X7_isCritical_J22 post postX S2 bc bs
  else
    gR S2 a0 11 0 fun v5 => (
    isO S2 v5 10 (
    f_X6_has S2 v5 a2 fun v7 S6 => (
    if v7 = 0 then
      f_X7_isCritical_J22 post postX S6 bc bs
    else
      if a1 = a2 then
        f_X7_isCritical_J49 post postX S6 bc bs
      else
        gR S6 a0 11 0 fun v10 => (
        isO S6 v10 10 (
        f_X6_tie S6 v10 a1 a2 fun v12 S11 => (
        if v12 = 0 then
          f_X7_isCritical_J49 post postX S11 bc bs
        else
          isO S11 a0 11 (
          f_X7_leastWith S11 a0 a1 a2 0 fun v15 S14 => (
          gR S14 a0 11 0 fun v16 => (
          isO S14 a0 11 (
          f_X7_leastByPhases S14 a0 v16 fun v18 S17 => (
          if v18 ≤ v15 then
            nZ .boolean 0 (post 0 S17)
          else
            nZ .boolean 1 (post 1 S17)))))))))))))))
abbrev rm_X7_isCritical (mc ms : Nat) : Room := { frames := 6, cells := mc, slots := ms, locals := 138 }
set_option maxHeartbeats 4000000 in
set_option maxRecDepth 100000 in
theorem c_X7_isCritical (l : Launch) (D : va_G) (cy : Nat → ClassId) (G : p_GT) (hG : p_ok G) (hst : l.stackTraces = false) (hGE : ∀ (A : Nat → Prop) (U : State) (H : Heap), G A U H → p_Ex A U H) (S : PS) (a0 : Nat) (a1 : Int32) (a2 : Int32) (mc ms : Nat) (post : Int32 → PS → Prop) (postX : String → PS → Prop) (sz : Nat) (hf : f_X7_isCritical S a0 a1 a2 mc ms post postX) : p_Xi l D cy G S sz yX7_isCritical (Cond.code yX7_isCritical cX7_isCritical 3 (some .boolean) :: wG) (rm_X7_isCritical mc ms) [.ref a0, .int a1, .int a2] mc ms post postX := by
  refine q_startX hG (Qc := fun A => va_Qi post (p_Post D cy A) A) (XC := fun A => p_XC D cy A postX) mf_X7_isCritical (Nat.le_of_ble_eq_true rfl) (own := RX7) rfl ?_
  intro p e s m below meth c A X hr hlk hnm htab ls hl hH
  have hx := X.1.1
  have hb := X.1.2.1
  replace hl : lv_has ls 3 [(0, .ref a0), (1, .int a1), (2, .int a2)] := hl
  have main : ∀ (H : Heap) (locs : List Loc) (ls : Array Slot) (cells slots bc bs : Nat), f_X7_isCritical S a0 a1 a2 bc bs post postX → p_H D cy S A s H locs → lv_has ls 3 [(0, .ref a0), (1, .int a1), (2, .int a2)] → cells + bc ≤ mc ∧ slots + bs ≤ ms → W p l e (rm_X7_isCritical mc ms) s m [.ref a0, .int a1, .int a2].toArray below meth c H locs cells slots (vx_MQ below (va_Qi post (p_Post D cy A) A) (p_XC D cy A postX) [.ref a0, .int a1, .int a2].toArray s mc ms A) (F0 m 0 ls []) := by
    intro H locs ls cells slots bc bs hf hH hl hB
    have hJ22 : ∀ (S : PS) (bc bs : Nat), f_X7_isCritical_J22 post postX S bc bs → ∀ (H : Heap) (locs : List Loc) (ls : Array Slot) (cells slots : Nat), p_H D cy S A s H locs → lv_has ls 3 [] → cells + bc ≤ mc ∧ slots + bs ≤ ms → W p l e (rm_X7_isCritical mc ms) s m [.ref a0, .int a1, .int a2].toArray below meth c H locs cells slots (vx_MQ below (va_Qi post (p_Post D cy A) A) (p_XC D cy A postX) [.ref a0, .int a1, .int a2].toArray s mc ms A) (F0 m 22 ls []) := by
      intro S bc bs hf H locs ls cells slots hH hl hB
      exact q_throw X hH hl hB rfl rfl hst (hGE _ _ _ X.2.2.2.2) hf tw_1106 tw_111 (text := "there is no such household") (List.mem_of_getElem? (i := 1) rfl) xa_IndexOutOfBoundsException xg_IndexOutOfBoundsException (by decide +kernel) (by decide +kernel) dX7_isCritical_22 dX7_isCritical_25 dX7_isCritical_26 dX7_isCritical_28 dX7_isCritical_31 htab ⟨Nat.le_of_ble_eq_true rfl, Nat.le_of_ble_eq_true rfl⟩ (Nat.le_of_ble_eq_true rfl) hlk
    have hJ49 : ∀ (S : PS) (bc bs : Nat), f_X7_isCritical_J49 post postX S bc bs → ∀ (H : Heap) (locs : List Loc) (ls : Array Slot) (cells slots : Nat), p_H D cy S A s H locs → lv_has ls 3 [] → cells + bc ≤ mc ∧ slots + bs ≤ ms → W p l e (rm_X7_isCritical mc ms) s m [.ref a0, .int a1, .int a2].toArray below meth c H locs cells slots (vx_MQ below (va_Qi post (p_Post D cy A) A) (p_XC D cy A postX) [.ref a0, .int a1, .int a2].toArray s mc ms A) (F0 m 49 ls []) := by
      intro S bc bs hf H locs ls cells slots hH hl hB
      exact q_throw X hH hl hB rfl rfl hst (hGE _ _ _ X.2.2.2.2) hf tw_1289 tw_115 (text := "there is no bond between them") (List.mem_of_getElem? (i := 15) rfl) xa_IllegalStateException xg_IllegalStateException (by decide +kernel) (by decide +kernel) dX7_isCritical_49 dX7_isCritical_52 dX7_isCritical_53 dX7_isCritical_55 dX7_isCritical_58 htab ⟨Nat.le_of_ble_eq_true rfl, Nat.le_of_ble_eq_true rfl⟩ (Nat.le_of_ble_eq_true rfl) hlk
    refine lv_aload_n hx hb dX7_isCritical_0 rfl (lv_at hl 0 rfl) ?_
    refine q_getR (T := TX7) (N := 12) X hH hf iw_X7 rfl (by decide) tw_319 (fun _ h => h) dX7_isCritical_1 (fun v1 hf => ?_)
    refine lv_iload_n hx hb dX7_isCritical_4 rfl (lv_at hl 1 rfl) ?_
    obtain ⟨hb1, hb2, hf⟩ := hf
    refine q_backI0 X hH (q_runV [.int a1] [] X hH hl (c_X6_has l D cy G X.2.2.2.1 S v1 a1 _ _ hf) mf_X6_has mv_X6_has tw_973 ⟨Nat.le_of_ble_eq_true rfl, Nat.le_of_ble_eq_true rfl⟩ hb1 hb2 (T := TX6) (N := 6) rfl rfl (Nat.le_of_ble_eq_true rfl) dX7_isCritical_5 ⟨Nat.le_trans (Nat.le_add_right _ _) hB.1, Nat.le_trans (Nat.le_add_right _ _) hB.2⟩) (fun v3 S2 hf H locs hH => ?_)
    refine lv_if_eq (tgt := 22) hx hb dX7_isCritical_8 (by decide) (fun c4 => ?_) (fun c4 => ?_)
    · have hf := (if_pos c4).mp hf
      exact hJ22 S2 bc bs hf H locs ls cells slots hH (lv_sub hl [] rfl) hB
    · have hf := (if_neg c4).mp hf
      refine lv_aload_n hx hb dX7_isCritical_11 rfl (lv_at hl 0 rfl) ?_
      refine q_getR (T := TX7) (N := 12) X hH hf iw_X7 rfl (by decide) tw_319 (fun _ h => h) dX7_isCritical_12 (fun v5 hf => ?_)
      refine lv_iload_n hx hb dX7_isCritical_15 rfl (lv_at hl 2 rfl) ?_
      obtain ⟨hb1, hb2, hf⟩ := hf
      refine q_backI0 X hH (q_runV [.int a2] [] X hH hl (c_X6_has l D cy G X.2.2.2.1 S2 v5 a2 _ _ hf) mf_X6_has mv_X6_has tw_973 ⟨Nat.le_of_ble_eq_true rfl, Nat.le_of_ble_eq_true rfl⟩ hb1 hb2 (T := TX6) (N := 6) rfl rfl (Nat.le_of_ble_eq_true rfl) dX7_isCritical_16 ⟨Nat.le_trans (Nat.le_add_right _ _) hB.1, Nat.le_trans (Nat.le_add_right _ _) hB.2⟩) (fun v7 S6 hf H locs hH => ?_)
      refine lv_if_ne (tgt := 32) hx hb dX7_isCritical_19 (by decide) (fun c8 => ?_) (fun c8 => ?_)
      · have hf := (if_neg c8).mp hf
        refine lv_iload_n hx hb dX7_isCritical_32 rfl (lv_at hl 1 rfl) ?_
        refine lv_iload_n hx hb dX7_isCritical_33 rfl (lv_at hl 2 rfl) ?_
        refine lv_icmp_eq (tgt := 49) hx hb dX7_isCritical_34 (by decide) (fun c9 => ?_) (fun c9 => ?_)
        · have hf := (if_pos c9).mp hf
          exact hJ49 S6 bc bs hf H locs ls cells slots hH (lv_sub hl [] rfl) hB
        · have hf := (if_neg c9).mp hf
          refine lv_aload_n hx hb dX7_isCritical_37 rfl (lv_at hl 0 rfl) ?_
          refine q_getR (T := TX7) (N := 12) X hH hf iw_X7 rfl (by decide) tw_319 (fun _ h => h) dX7_isCritical_38 (fun v10 hf => ?_)
          refine lv_iload_n hx hb dX7_isCritical_41 rfl (lv_at hl 1 rfl) ?_
          refine lv_iload_n hx hb dX7_isCritical_42 rfl (lv_at hl 2 rfl) ?_
          obtain ⟨hb1, hb2, hf⟩ := hf
          refine q_backI0 X hH (q_runV [.int a1, .int a2] [] X hH hl (c_X6_tie l D cy G X.2.2.2.1 S6 v10 a1 a2 _ _ hf) mf_X6_tie mv_X6_tie tw_902 ⟨Nat.le_of_ble_eq_true rfl, Nat.le_of_ble_eq_true rfl⟩ hb1 hb2 (T := TX6) (N := 6) rfl rfl (Nat.le_of_ble_eq_true rfl) dX7_isCritical_43 ⟨Nat.le_trans (Nat.le_add_right _ _) hB.1, Nat.le_trans (Nat.le_add_right _ _) hB.2⟩) (fun v12 S11 hf H locs hH => ?_)
          refine lv_if_ne (tgt := 59) hx hb dX7_isCritical_46 (by decide) (fun c13 => ?_) (fun c13 => ?_)
          · have hf := (if_neg c13).mp hf
            refine lv_aload_n hx hb dX7_isCritical_59 rfl (lv_at hl 0 rfl) ?_
            refine lv_iload_n hx hb dX7_isCritical_60 rfl (lv_at hl 1 rfl) ?_
            refine lv_iload_n hx hb dX7_isCritical_61 rfl (lv_at hl 2 rfl) ?_
            refine lv_iconst (v := 0) hx hb dX7_isCritical_62 (by decide) ?_
            obtain ⟨hb1, hb2, hf⟩ := hf
            refine q_backI0 X hH (q_runV [.int a1, .int a2, .int 0] [] X hH hl (c_X7_leastWith l D cy G X.2.2.2.1 S11 a0 a1 a2 0 _ _ hf) mf_X7_leastWith mv_X7_leastWith tw_1277 ⟨Nat.le_of_ble_eq_true rfl, Nat.le_of_ble_eq_true rfl⟩ hb1 hb2 (T := TX7) (N := 12) rfl rfl (Nat.le_of_ble_eq_true rfl) dX7_isCritical_63 ⟨Nat.le_trans (Nat.le_add_right _ _) hB.1, Nat.le_trans (Nat.le_add_right _ _) hB.2⟩) (fun v15 S14 hf H locs hH => ?_)
            refine lv_aload_n hx hb dX7_isCritical_66 rfl (lv_at hl 0 rfl) ?_
            refine lv_aload_n hx hb dX7_isCritical_67 rfl (lv_at hl 0 rfl) ?_
            refine q_getR (T := TX7) (N := 12) X hH hf iw_X7 rfl (by decide) tw_319 (fun _ h => h) dX7_isCritical_68 (fun v16 hf => ?_)
            obtain ⟨hb1, hb2, hf⟩ := hf
            refine q_backI0 X hH (q_runV [.ref v16] [.int v15] X hH hl (c_X7_leastByPhases l D cy G X.2.2.2.1 S14 a0 v16 _ _ hf) mf_X7_leastByPhases mv_X7_leastByPhases tw_435 ⟨Nat.le_of_ble_eq_true rfl, Nat.le_of_ble_eq_true rfl⟩ hb1 hb2 (T := TX7) (N := 12) rfl rfl (Nat.le_of_ble_eq_true rfl) dX7_isCritical_71 ⟨Nat.le_trans (Nat.le_add_right _ _) hB.1, Nat.le_trans (Nat.le_add_right _ _) hB.2⟩) (fun v18 S17 hf H locs hH => ?_)
            refine lv_icmp_ge (tgt := 81) hx hb dX7_isCritical_74 (by decide) (fun c19 => ?_) (fun c19 => ?_)
            · have hf := (if_pos c19).mp hf
              refine lv_iconst (v := 0) hx hb dX7_isCritical_81 (by decide) ?_
              exact vx_ret (q_retZ X hH hr hlk hf (Nat.le_trans (Nat.le_add_right _ _) hB.1) (Nat.le_trans (Nat.le_add_right _ _) hB.2) dX7_isCritical_82)
            · have hf := (if_neg c19).mp hf
              refine lv_iconst (v := 1) hx hb dX7_isCritical_77 (by decide) ?_
              refine lv_goto (tgt := 82) hx hb dX7_isCritical_78 (by decide) ?_
              exact vx_ret (q_retZ X hH hr hlk hf (Nat.le_trans (Nat.le_add_right _ _) hB.1) (Nat.le_trans (Nat.le_add_right _ _) hB.2) dX7_isCritical_82)
          · have hf := (if_pos c13).mp hf
            exact hJ49 S11 bc bs hf H locs ls cells slots hH (lv_sub hl [] rfl) hB
      · have hf := (if_pos c8).mp hf
        exact hJ22 S6 bc bs hf H locs ls cells slots hH (lv_sub hl [] rfl) hB
  exact main s.heap [] ls 0 0 mc ms hf hH hl ⟨by omega, by omega⟩
-- X7_isTold
def f_X7_isTold (S : PS) (a0 : Nat) (post : Int32 → PS → Prop) : Prop :=
  gR S a0 11 0 fun v1 => (
  isO S v1 10 (
  f_X6_feudByBonds S v1 fun v3 S2 => (
  gR S2 a0 11 0 fun v4 => (
  isO S2 v4 10 (
  f_X6_feudByHalves S2 v4 fun v6 S5 => (
  if v3 = v6 then
    isO S5 a0 11 (
    f_X7_isTooSmall S5 a0 fun v9 S8 => (
    if v9 = 0 then
      isO S8 a0 11 (
      f_X7_isLeastTold S8 a0 fun v12 S11 => (
      if v12 = 0 then
        nZ .boolean 0 (post 0 S11)
      else
        nZ .boolean 1 (post 1 S11)))
    else
      nZ .boolean 1 (post 1 S8)))
  else
    nZ .boolean 0 (post 0 S5)))))))
abbrev rm_X7_isTold : Room := { frames := 6, cells := 0, slots := 0, locals := 139 }
set_option maxHeartbeats 4000000 in
set_option maxRecDepth 100000 in
theorem c_X7_isTold (l : Launch) (D : va_G) (cy : Nat → ClassId) (G : p_GT) (hG : p_ok G) (S : PS) (a0 : Nat) (post : Int32 → PS → Prop) (sz : Nat) (hf : f_X7_isTold S a0 post) : p_Mi l D cy G S sz yX7_isTold (Cond.code yX7_isTold cX7_isTold 1 (some .boolean) :: wG) rm_X7_isTold [.ref a0] 0 0 post := by
  refine q_start hG (Qc := fun A => va_Qi post (p_Post D cy A) A) mf_X7_isTold (Nat.le_of_ble_eq_true rfl) (own := RX7) rfl ?_
  intro p e s m below meth c A X hr hlk hnm ls hl hH
  have hx := X.1.1
  have hb := X.1.2.1
  replace hl : lv_has ls 1 [(0, .ref a0)] := hl
  obtain ⟨H, hHe⟩ : ∃ H, H = s.heap := ⟨_, rfl⟩
  obtain ⟨locs, hlo⟩ : ∃ locs : List Loc, locs = [] := ⟨_, rfl⟩
  rw [← hHe, ← hlo] at hH
  show W p l e rm_X7_isTold s m [.ref a0].toArray below meth c s.heap [] 0 0 _ _
  rw [← hHe, ← hlo]
  refine lv_aload_n hx hb dX7_isTold_0 rfl (lv_at hl 0 rfl) ?_
  refine q_getR (T := TX7) (N := 12) X hH hf iw_X7 rfl (by decide) tw_319 (fun _ h => h) dX7_isTold_1 (fun v1 hf => ?_)
  obtain ⟨hb1, hb2, hf⟩ := hf
  refine q_backI0 X hH (q_runV [] [] X hH hl (c_X6_feudByBonds l D cy G X.2.2.2.1 S v1 _ _ hf) mf_X6_feudByBonds mv_X6_feudByBonds tw_360 ⟨Nat.le_of_ble_eq_true rfl, Nat.le_of_ble_eq_true rfl⟩ hb1 hb2 (T := TX6) (N := 6) rfl rfl (Nat.le_of_ble_eq_true rfl) dX7_isTold_4 ⟨Nat.le_of_ble_eq_true rfl, Nat.le_of_ble_eq_true rfl⟩) (fun v3 S2 hf H locs hH => ?_)
  refine lv_aload_n hx hb dX7_isTold_7 rfl (lv_at hl 0 rfl) ?_
  refine q_getR (T := TX7) (N := 12) X hH hf iw_X7 rfl (by decide) tw_319 (fun _ h => h) dX7_isTold_8 (fun v4 hf => ?_)
  obtain ⟨hb1, hb2, hf⟩ := hf
  refine q_backI0 X hH (q_runV [] [.int v3] X hH hl (c_X6_feudByHalves l D cy G X.2.2.2.1 S2 v4 _ _ hf) mf_X6_feudByHalves mv_X6_feudByHalves tw_383 ⟨Nat.le_of_ble_eq_true rfl, Nat.le_of_ble_eq_true rfl⟩ hb1 hb2 (T := TX6) (N := 6) rfl rfl (Nat.le_of_ble_eq_true rfl) dX7_isTold_11 ⟨Nat.le_of_ble_eq_true rfl, Nat.le_of_ble_eq_true rfl⟩) (fun v6 S5 hf H locs hH => ?_)
  refine lv_icmp_eq (tgt := 19) hx hb dX7_isTold_14 (by decide) (fun c7 => ?_) (fun c7 => ?_)
  · have hf := (if_pos c7).mp hf
    refine lv_aload_n hx hb dX7_isTold_19 rfl (lv_at hl 0 rfl) ?_
    obtain ⟨hb1, hb2, hf⟩ := hf
    refine q_backI0 X hH (q_runV [] [] X hH hl (c_X7_isTooSmall l D cy G X.2.2.2.1 S5 a0 _ _ hf) mf_X7_isTooSmall mv_X7_isTooSmall tw_427 ⟨Nat.le_of_ble_eq_true rfl, Nat.le_of_ble_eq_true rfl⟩ hb1 hb2 (T := TX7) (N := 12) rfl rfl (Nat.le_of_ble_eq_true rfl) dX7_isTold_20 ⟨Nat.le_of_ble_eq_true rfl, Nat.le_of_ble_eq_true rfl⟩) (fun v9 S8 hf H locs hH => ?_)
    refine lv_if_ne (tgt := 33) hx hb dX7_isTold_23 (by decide) (fun c10 => ?_) (fun c10 => ?_)
    · have hf := (if_neg c10).mp hf
      refine lv_iconst (v := 1) hx hb dX7_isTold_33 (by decide) ?_
      refine lv_goto (tgt := 38) hx hb dX7_isTold_34 (by decide) ?_
      exact q_retZ X hH hr hlk hf (Nat.zero_le _) (Nat.zero_le _) dX7_isTold_38
    · have hf := (if_pos c10).mp hf
      refine lv_aload_n hx hb dX7_isTold_26 rfl (lv_at hl 0 rfl) ?_
      obtain ⟨hb1, hb2, hf⟩ := hf
      refine q_backI0 X hH (q_runV [] [] X hH hl (c_X7_isLeastTold l D cy G X.2.2.2.1 S8 a0 _ _ hf) mf_X7_isLeastTold mv_X7_isLeastTold tw_431 ⟨Nat.le_of_ble_eq_true rfl, Nat.le_of_ble_eq_true rfl⟩ hb1 hb2 (T := TX7) (N := 12) rfl rfl (Nat.le_of_ble_eq_true rfl) dX7_isTold_27 ⟨Nat.le_of_ble_eq_true rfl, Nat.le_of_ble_eq_true rfl⟩) (fun v12 S11 hf H locs hH => ?_)
      refine lv_if_eq (tgt := 37) hx hb dX7_isTold_30 (by decide) (fun c13 => ?_) (fun c13 => ?_)
      · have hf := (if_pos c13).mp hf
        refine lv_iconst (v := 0) hx hb dX7_isTold_37 (by decide) ?_
        exact q_retZ X hH hr hlk hf (Nat.zero_le _) (Nat.zero_le _) dX7_isTold_38
      · have hf := (if_neg c13).mp hf
        refine lv_iconst (v := 1) hx hb dX7_isTold_33 (by decide) ?_
        refine lv_goto (tgt := 38) hx hb dX7_isTold_34 (by decide) ?_
        exact q_retZ X hH hr hlk hf (Nat.zero_le _) (Nat.zero_le _) dX7_isTold_38
  · have hf := (if_neg c7).mp hf
    refine lv_iconst (v := 0) hx hb dX7_isTold_17 (by decide) ?_
    exact q_retZ X hH hr hlk hf (Nat.zero_le _) (Nat.zero_le _) dX7_isTold_18
-- X7_tell
def f_X7_tell_J66 (post : Int32 → PS → Prop) (S : PS) (bc bs : Nat) (l0 : Nat) : Prop :=
  gR S l0 11 9 fun v1 => (
  isO S v1 1 (
  f_J4_length_8abf5 S v1 fun v3 S2 => (
  post v3 S2)))
def f_X7_tell_J60 (post : Int32 → PS → Prop) (g10 : PS → Nat → Nat → Nat → Int32 → Prop) (S : PS) (bc bs : Nat) (l0 : Nat) (l1 : Int32) : Prop :=
  g10 S bc bs l0 (l1 + 1)
def f_X7_tell_J54 (post : Int32 → PS → Prop) (g25 : PS → Nat → Nat → Nat → Int32 → Int32 → Prop) (S : PS) (bc bs : Nat) (l0 : Nat) (l1 : Int32) (l2 : Int32) : Prop :=
  g25 S bc bs l0 l1 (l2 + 1)
def f_X7_tell_L25 (post : Int32 → PS → Prop) (g10 : PS → Nat → Nat → Nat → Int32 → Prop) : Nat → PS → Nat → Nat → Nat → Int32 → Int32 → Prop
  | 0, _, _, _, _, _, _ => False
  | n + 1, S, bc, bs, l0, l1, l2 =>
  gR S l0 11 0 fun v1 => (
  gI S v1 10 1 fun v2 => (
  if v2 ≤ l2 then
    f_X7_tell_J60 post g10 S bc bs l0 l1
  else
    gR S l0 11 0 fun v4 => (
    isO S v4 10 (
    f_X6_tie S v4 l1 l2 fun v6 S5 => (
    if v6 ≤ 0 then
      f_X7_tell_J54 post (f_X7_tell_L25 post g10 n) S5 bc bs l0 l1 l2
    else
      isO S5 l0 11 (
      ∃ mc9 ms9 : Nat, mc9 ≤ bc ∧ ms9 ≤ bs ∧ (f_X7_writeBond S5 l0 l1 l2 mc9 ms9 fun S8 => (
      f_X7_tell_J54 post (f_X7_tell_L25 post g10 n) S8 (bc - mc9) (bs - ms9) l0 l1 l2))))))))
def f_X7_tell_L10 (post : Int32 → PS → Prop) : Nat → PS → Nat → Nat → Nat → Int32 → Prop
  | 0, _, _, _, _, _ => False
  | n + 1, S, bc, bs, l0, l1 =>
  gR S l0 11 0 fun v1 => (
  gI S v1 10 1 fun v2 => (
  if v2 ≤ l1 then
    f_X7_tell_J66 post S bc bs l0
  else
    f_X7_tell_L25 post (f_X7_tell_L10 post n) 4096 S bc bs l0 l1 (l1 + 1)))
def f_X7_tell (S : PS) (a0 : Nat) (bc bs : Nat) (post : Int32 → PS → Prop) : Prop :=
  gR S a0 11 9 fun v1 => (
  isO S v1 1 (
  ∃ mc3 ms3 : Nat, mc3 ≤ bc ∧ ms3 ≤ bs ∧ (f_J4_setLength_d00df S v1 0 mc3 ms3 fun S2 => (
  f_X7_tell_L10 post 4096 S2 (bc - mc3) (bs - ms3) a0 0))))
abbrev rm_X7_tell (mc ms : Nat) : Room := { frames := 7, cells := mc, slots := ms, locals := 170 }
set_option maxHeartbeats 4000000 in
set_option maxRecDepth 100000 in
theorem c_X7_tell (l : Launch) (D : va_G) (cy : Nat → ClassId) (G : p_GT) (hG : p_ok G) (hGC : ∀ (A : Nat → Prop) (U : State) (H : Heap), G A U H → gC A U H) (dT dO : Nat) (hGT : ∀ (A : Nat → Prop) (U : State) (H : Heap), G A U H → gT dT dO A U H) (hGU : ∀ (A : Nat → Prop) (U : State) (H : Heap), G A U H → gU A U H) (S : PS) (a0 : Nat) (mc ms : Nat) (post : Int32 → PS → Prop) (sz : Nat) (hf : f_X7_tell S a0 mc ms post) : p_Mi l D cy G S sz yX7_tell (Cond.code yX7_tell cX7_tell 3 (some .int) :: wG) (rm_X7_tell mc ms) [.ref a0] mc ms post := by
  refine q_start hG (Qc := fun A => va_Qi post (p_Post D cy A) A) mf_X7_tell (Nat.le_of_ble_eq_true rfl) (own := RX7) rfl ?_
  intro p e s m below meth c A X hr hlk hnm ls hl hH
  have hx := X.1.1
  have hb := X.1.2.1
  replace hl : lv_has ls 3 [(0, .ref a0)] := hl
  have main : ∀ (H : Heap) (locs : List Loc) (ls : Array Slot) (cells slots bc bs : Nat), f_X7_tell S a0 bc bs post → p_H D cy S A s H locs → lv_has ls 3 [(0, .ref a0)] → cells + bc ≤ mc ∧ slots + bs ≤ ms → W p l e (rm_X7_tell mc ms) s m [.ref a0].toArray below meth c H locs cells slots (MQ below (va_Qi post (p_Post D cy A) A) [.ref a0].toArray s mc ms A) (F0 m 0 ls []) := by
    intro H locs ls cells slots bc bs hf hH hl hB
    have hL10 : ∀ (n10 : Nat) (S : PS) (bc bs : Nat) (l0 : Nat) (l1 : Int32), f_X7_tell_L10 post n10 S bc bs l0 l1 → ∀ (H : Heap) (locs : List Loc) (ls : Array Slot) (cells slots : Nat), p_H D cy S A s H locs → lv_has ls 3 [(0, .ref l0), (1, .int l1)] → cells + bc ≤ mc ∧ slots + bs ≤ ms → W p l e (rm_X7_tell mc ms) s m [.ref a0].toArray below meth c H locs cells slots (MQ below (va_Qi post (p_Post D cy A) A) [.ref a0].toArray s mc ms A) (F0 m 10 ls []) := by
      intro n10
      induction n10 with
      | zero => intro S bc bs l0 l1 hf; exact hf.elim
      | succ n10 ih10 =>
        intro S bc bs l0 l1 hf H locs ls cells slots hH hl hB
        have hJ66 : ∀ (S : PS) (bc bs : Nat) (l0 : Nat), f_X7_tell_J66 post S bc bs l0 → ∀ (H : Heap) (locs : List Loc) (ls : Array Slot) (cells slots : Nat), p_H D cy S A s H locs → lv_has ls 3 [(0, .ref l0)] → cells + bc ≤ mc ∧ slots + bs ≤ ms → W p l e (rm_X7_tell mc ms) s m [.ref a0].toArray below meth c H locs cells slots (MQ below (va_Qi post (p_Post D cy A) A) [.ref a0].toArray s mc ms A) (F0 m 66 ls []) := by
          intro S bc bs l0 hf H locs ls cells slots hH hl hB
          refine lv_aload_n hx hb dX7_tell_66 rfl (lv_at hl 0 rfl) ?_
          refine q_getR (T := TX7) (N := 12) X hH hf iw_X7 rfl (by decide) tw_328 (fun _ h => h) dX7_tell_67 (fun v1 hf => ?_)
          obtain ⟨hb1, hb2, hf⟩ := hf
          refine q_backI0 X hH (q_runV [] [] X hH hl (c_J4_length_8abf5 l D cy G X.2.2.2.1 S v1 _ _ hf) mf_J4_length_8abf5 mv_J4_length_8abf5 tw_907 ⟨Nat.le_of_ble_eq_true rfl, Nat.le_of_ble_eq_true rfl⟩ hb1 hb2 (T := TJ4) (N := 4) rfl rfl (Nat.le_of_ble_eq_true rfl) dX7_tell_70 ⟨Nat.le_trans (Nat.le_add_right _ _) hB.1, Nat.le_trans (Nat.le_add_right _ _) hB.2⟩) (fun v3 S2 hf H locs hH => ?_)
          exact q_retI X hH hr hlk hf (Nat.le_trans (Nat.le_add_right _ _) hB.1) (Nat.le_trans (Nat.le_add_right _ _) hB.2) dX7_tell_73
        have hL25 : ∀ (n25 : Nat) (S : PS) (bc bs : Nat) (l0 : Nat) (l1 : Int32) (l2 : Int32), f_X7_tell_L25 post (f_X7_tell_L10 post n10) n25 S bc bs l0 l1 l2 → ∀ (H : Heap) (locs : List Loc) (ls : Array Slot) (cells slots : Nat), p_H D cy S A s H locs → lv_has ls 3 [(0, .ref l0), (1, .int l1), (2, .int l2)] → cells + bc ≤ mc ∧ slots + bs ≤ ms → W p l e (rm_X7_tell mc ms) s m [.ref a0].toArray below meth c H locs cells slots (MQ below (va_Qi post (p_Post D cy A) A) [.ref a0].toArray s mc ms A) (F0 m 25 ls []) := by
          intro n25
          induction n25 with
          | zero => intro S bc bs l0 l1 l2 hf; exact hf.elim
          | succ n25 ih25 =>
            intro S bc bs l0 l1 l2 hf H locs ls cells slots hH hl hB
            have hJ60 : ∀ (S : PS) (bc bs : Nat) (l0 : Nat) (l1 : Int32), f_X7_tell_J60 post (f_X7_tell_L10 post n10) S bc bs l0 l1 → ∀ (H : Heap) (locs : List Loc) (ls : Array Slot) (cells slots : Nat), p_H D cy S A s H locs → lv_has ls 3 [(0, .ref l0), (1, .int l1)] → cells + bc ≤ mc ∧ slots + bs ≤ ms → W p l e (rm_X7_tell mc ms) s m [.ref a0].toArray below meth c H locs cells slots (MQ below (va_Qi post (p_Post D cy A) A) [.ref a0].toArray s mc ms A) (F0 m 60 ls []) := by
              intro S bc bs l0 l1 hf H locs ls cells slots hH hl hB
              refine lv_iinc (v := l1 + 1) (lv' := [(1, .int (l1 + 1)), (0, .ref l0)]) hx hb dX7_tell_60 hl (k := 1) rfl rfl (by decide) rfl (fun ls hl => ?_)
              refine lv_goto (tgt := 10) hx hb dX7_tell_63 (by decide) ?_
              exact ih10 S bc bs l0 (l1 + 1) hf H locs ls cells slots hH (lv_sub hl [1, 0] rfl) hB
            have hJ54 : ∀ (S : PS) (bc bs : Nat) (l0 : Nat) (l1 : Int32) (l2 : Int32), f_X7_tell_J54 post (f_X7_tell_L25 post (f_X7_tell_L10 post n10) n25) S bc bs l0 l1 l2 → ∀ (H : Heap) (locs : List Loc) (ls : Array Slot) (cells slots : Nat), p_H D cy S A s H locs → lv_has ls 3 [(0, .ref l0), (1, .int l1), (2, .int l2)] → cells + bc ≤ mc ∧ slots + bs ≤ ms → W p l e (rm_X7_tell mc ms) s m [.ref a0].toArray below meth c H locs cells slots (MQ below (va_Qi post (p_Post D cy A) A) [.ref a0].toArray s mc ms A) (F0 m 54 ls []) := by
              intro S bc bs l0 l1 l2 hf H locs ls cells slots hH hl hB
              refine lv_iinc (v := l2 + 1) (lv' := [(2, .int (l2 + 1)), (0, .ref l0), (1, .int l1)]) hx hb dX7_tell_54 hl (k := 2) rfl rfl (by decide) rfl (fun ls hl => ?_)
              refine lv_goto (tgt := 25) hx hb dX7_tell_57 (by decide) ?_
              exact ih25 S bc bs l0 l1 (l2 + 1) hf H locs ls cells slots hH (lv_sub hl [1, 2, 0] rfl) hB
            refine lv_iload_n hx hb dX7_tell_25 rfl (lv_at hl 2 rfl) ?_
            refine lv_aload_n hx hb dX7_tell_26 rfl (lv_at hl 0 rfl) ?_
            refine q_getR (T := TX7) (N := 12) X hH hf iw_X7 rfl (by decide) tw_319 (fun _ h => h) dX7_tell_27 (fun v1 hf => ?_)
            refine q_getIN (T := TX6) (N := 6) X hH hf iw_X6 rfl (by decide) (List.mem_of_getElem? (i := 0) rfl) (fun _ h => h) dX7_tell_30 (fun v2 hf => ?_)
            refine lv_icmp_ge (tgt := 60) hx hb dX7_tell_33 (by decide) (fun c3 => ?_) (fun c3 => ?_)
            · have hf := (if_pos c3).mp hf
              exact hJ60 S bc bs l0 l1 hf H locs ls cells slots hH (lv_sub hl [0, 1] rfl) hB
            · have hf := (if_neg c3).mp hf
              refine lv_aload_n hx hb dX7_tell_36 rfl (lv_at hl 0 rfl) ?_
              refine q_getR (T := TX7) (N := 12) X hH hf iw_X7 rfl (by decide) tw_319 (fun _ h => h) dX7_tell_37 (fun v4 hf => ?_)
              refine lv_iload_n hx hb dX7_tell_40 rfl (lv_at hl 1 rfl) ?_
              refine lv_iload_n hx hb dX7_tell_41 rfl (lv_at hl 2 rfl) ?_
              obtain ⟨hb1, hb2, hf⟩ := hf
              refine q_backI0 X hH (q_runV [.int l1, .int l2] [] X hH hl (c_X6_tie l D cy G X.2.2.2.1 S v4 l1 l2 _ _ hf) mf_X6_tie mv_X6_tie tw_902 ⟨Nat.le_of_ble_eq_true rfl, Nat.le_of_ble_eq_true rfl⟩ hb1 hb2 (T := TX6) (N := 6) rfl rfl (Nat.le_of_ble_eq_true rfl) dX7_tell_42 ⟨Nat.le_trans (Nat.le_add_right _ _) hB.1, Nat.le_trans (Nat.le_add_right _ _) hB.2⟩) (fun v6 S5 hf H locs hH => ?_)
              refine lv_if_le (tgt := 54) hx hb dX7_tell_45 (by decide) (fun c7 => ?_) (fun c7 => ?_)
              · have hf := (if_pos c7).mp hf
                exact hJ54 S5 bc bs l0 l1 l2 hf H locs ls cells slots hH hl hB
              · have hf := (if_neg c7).mp hf
                refine lv_aload_n hx hb dX7_tell_48 rfl (lv_at hl 0 rfl) ?_
                refine lv_iload_n hx hb dX7_tell_49 rfl (lv_at hl 1 rfl) ?_
                refine lv_iload_n hx hb dX7_tell_50 rfl (lv_at hl 2 rfl) ?_
                obtain ⟨hb1, hb2, hf⟩ := hf
                obtain ⟨mc9, ms9, hm1, hs1, hf⟩ := hf
                refine q_backVB X hH hB hm1 hs1 (q_runV [.int l1, .int l2] [] X hH hl (c_X7_writeBond l D cy G X.2.2.2.1 hGC dT dO hGT hGU S5 l0 l1 l2 mc9 ms9 _ _ hf) mf_X7_writeBond mv_X7_writeBond tw_903 ⟨Nat.le_of_ble_eq_true rfl, Nat.le_of_ble_eq_true rfl⟩ hb1 hb2 (T := TX7) (N := 12) rfl rfl (Nat.le_of_ble_eq_true rfl) dX7_tell_51 ⟨Nat.le_trans (Nat.add_le_add_left hm1 _) hB.1, Nat.le_trans (Nat.add_le_add_left hs1 _) hB.2⟩) (fun S8 hf H locs cells slots hH hB => ?_)
                exact hJ54 S8 (bc - mc9) (bs - ms9) l0 l1 l2 hf H locs ls cells slots hH hl hB
        refine lv_iload_n hx hb dX7_tell_10 rfl (lv_at hl 1 rfl) ?_
        refine lv_aload_n hx hb dX7_tell_11 rfl (lv_at hl 0 rfl) ?_
        refine q_getR (T := TX7) (N := 12) X hH hf iw_X7 rfl (by decide) tw_319 (fun _ h => h) dX7_tell_12 (fun v1 hf => ?_)
        refine q_getIN (T := TX6) (N := 6) X hH hf iw_X6 rfl (by decide) (List.mem_of_getElem? (i := 0) rfl) (fun _ h => h) dX7_tell_15 (fun v2 hf => ?_)
        refine lv_icmp_ge (tgt := 66) hx hb dX7_tell_18 (by decide) (fun c3 => ?_) (fun c3 => ?_)
        · have hf := (if_pos c3).mp hf
          exact hJ66 S bc bs l0 hf H locs ls cells slots hH (lv_sub hl [0] rfl) hB
        · have hf := (if_neg c3).mp hf
          refine lv_iload_n hx hb dX7_tell_21 rfl (lv_at hl 1 rfl) ?_
          refine lv_iconst (v := 1) hx hb dX7_tell_22 (by decide) ?_
          refine lv_iadd hx hb dX7_tell_23 ?_
          refine lv_istore_n (lv' := [(2, .int (l1 + 1)), (0, .ref l0), (1, .int l1)]) hx hb dX7_tell_24 rfl hl (by decide) rfl (fun ls hl => ?_)
          exact hL25 4096 S bc bs l0 l1 (l1 + 1) hf H locs ls cells slots hH (lv_sub hl [1, 2, 0] rfl) hB
    refine lv_aload_n hx hb dX7_tell_0 rfl (lv_at hl 0 rfl) ?_
    refine q_getR (T := TX7) (N := 12) X hH hf iw_X7 rfl (by decide) tw_328 (fun _ h => h) dX7_tell_1 (fun v1 hf => ?_)
    refine lv_iconst (v := 0) hx hb dX7_tell_4 (by decide) ?_
    obtain ⟨hb1, hb2, hf⟩ := hf
    obtain ⟨mc3, ms3, hm1, hs1, hf⟩ := hf
    refine q_backVB X hH hB hm1 hs1 (q_runV [.int 0] [] X hH hl (c_J4_setLength_d00df l D cy G X.2.2.2.1 hGU S v1 0 mc3 ms3 _ _ hf) mf_J4_setLength_d00df mv_J4_setLength_d00df tw_559 ⟨Nat.le_of_ble_eq_true rfl, Nat.le_of_ble_eq_true rfl⟩ hb1 hb2 (T := TJ4) (N := 4) rfl rfl (Nat.le_of_ble_eq_true rfl) dX7_tell_5 ⟨Nat.le_trans (Nat.add_le_add_left hm1 _) hB.1, Nat.le_trans (Nat.add_le_add_left hs1 _) hB.2⟩) (fun S2 hf H locs cells slots hH hB => ?_)
    refine lv_iconst (v := 0) hx hb dX7_tell_8 (by decide) ?_
    refine lv_istore_n (lv' := [(1, .int 0), (0, .ref a0)]) hx hb dX7_tell_9 rfl hl (by decide) rfl (fun ls hl => ?_)
    exact hL10 4096 S2 (bc - mc3) (bs - ms3) a0 0 hf H locs ls cells slots hH (lv_sub hl [1, 0] rfl) hB
  exact main s.heap [] ls 0 0 mc ms hf hH hl ⟨by omega, by omega⟩
