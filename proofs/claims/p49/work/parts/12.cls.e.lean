-- X7_keyOf
def f_X7_keyOf (S : PS) (a0 : Nat) (a1 : Int32) (a2 : Int32) (post : Int32 → PS → Prop) : Prop :=
  if a1 = 0 then
    gR S a0 11 0 fun v2 => (
    gR S a0 11 0 fun v3 => (
    isO S v3 10 (
    f_X6_everyone S v3 fun v5 S4 => (
    isO S4 v2 10 (
    f_X6_tieToSet S4 v2 a2 v5 fun v7 S6 => (
    post v7 S6))))))
  else
  if a1 = 1 then
    gR S a0 11 0 fun v9 => (
    isO S v9 10 (
    f_X6_bondsOf S v9 a2 fun v11 S10 => (
    post v11 S10)))
  else
  if a1 = 2 then
    gR S a0 11 0 fun v13 => (
    gR S a0 11 0 fun v14 => (
    isO S v14 10 (
    f_X6_otherSide S v14 a2 fun v16 S15 => (
    isO S15 v13 10 (
    f_X6_tieToSet S15 v13 a2 v16 fun v18 S17 => (
    post v18 S17))))))
  else
    if a2 = 0 then
      post (-2147483647) S
    else
      gR S a0 11 5 fun v20 => (
      isO S v20 4 (
      f_X0_leastApart S v20 0 a2 fun v22 S21 => (
      post (-v22) S21)))
abbrev rm_X7_keyOf : Room := { frames := 4, cells := 0, slots := 0, locals := 84 }
set_option maxHeartbeats 4000000 in
set_option maxRecDepth 100000 in
theorem c_X7_keyOf (l : Launch) (D : va_G) (cy : Nat → ClassId) (G : p_GT) (hG : p_ok G) (S : PS) (a0 : Nat) (a1 : Int32) (a2 : Int32) (post : Int32 → PS → Prop) (sz : Nat) (hf : f_X7_keyOf S a0 a1 a2 post) : p_Mi l D cy G S sz yX7_keyOf (Cond.code yX7_keyOf cX7_keyOf 3 (some .int) :: wG) rm_X7_keyOf [.ref a0, .int a1, .int a2] 0 0 post := by
  refine q_start hG (Qc := fun A => va_Qi post (p_Post D cy A) A) mf_X7_keyOf (Nat.le_of_ble_eq_true rfl) (own := RX7) rfl ?_
  intro p e s m below meth c A X hr hlk hnm ls hl hH
  have hx := X.1.1
  have hb := X.1.2.1
  replace hl : lv_has ls 3 [(0, .ref a0), (1, .int a1), (2, .int a2)] := hl
  obtain ⟨H, hHe⟩ : ∃ H, H = s.heap := ⟨_, rfl⟩
  obtain ⟨locs, hlo⟩ : ∃ locs : List Loc, locs = [] := ⟨_, rfl⟩
  rw [← hHe, ← hlo] at hH
  show W p l e rm_X7_keyOf s m [.ref a0, .int a1, .int a2].toArray below meth c s.heap [] 0 0 _ _
  rw [← hHe, ← hlo]
  refine lv_iload_n hx hb dX7_keyOf_0 rfl (lv_at hl 1 rfl) ?_
  by_cases c1 : a1 = 0
  · have hf := (if_pos c1).mp hf
    refine lv_tableIn (off := 27) (tgt := 28) hx hb dX7_keyOf_1 (by rw [c1]; decide) (by rw [c1]; decide) (by rw [c1]; rfl) (by decide) ?_
    refine lv_aload_n hx hb dX7_keyOf_28 rfl (lv_at hl 0 rfl) ?_
    refine q_getR (T := TX7) (N := 12) X hH hf iw_X7 rfl (by decide) tw_253 (fun _ h => h) dX7_keyOf_29 (fun v2 hf => ?_)
    refine lv_iload_n hx hb dX7_keyOf_32 rfl (lv_at hl 2 rfl) ?_
    refine lv_aload_n hx hb dX7_keyOf_33 rfl (lv_at hl 0 rfl) ?_
    refine q_getR (T := TX7) (N := 12) X hH hf iw_X7 rfl (by decide) tw_253 (fun _ h => h) dX7_keyOf_34 (fun v3 hf => ?_)
    obtain ⟨hb1, hb2, hf⟩ := hf
    refine q_backI0 X hH (q_runV [] [.int a2, .ref v2] X hH hl (c_X6_everyone l D cy G X.2.2.2.1 S v3 _ _ hf) mf_X6_everyone mv_X6_everyone tw_383 ⟨Nat.le_of_ble_eq_true rfl, Nat.le_of_ble_eq_true rfl⟩ hb1 hb2 (T := TX6) (N := 6) rfl rfl (Nat.le_of_ble_eq_true rfl) dX7_keyOf_37 ⟨Nat.le_of_ble_eq_true rfl, Nat.le_of_ble_eq_true rfl⟩) (fun v5 S4 hf H locs hH => ?_)
    obtain ⟨hb1, hb2, hf⟩ := hf
    refine q_backI0 X hH (q_runV [.int a2, .int v5] [] X hH hl (c_X6_tieToSet l D cy G X.2.2.2.1 S4 v2 a2 v5 _ _ hf) mf_X6_tieToSet mv_X6_tieToSet tw_387 ⟨Nat.le_of_ble_eq_true rfl, Nat.le_of_ble_eq_true rfl⟩ hb1 hb2 (T := TX6) (N := 6) rfl rfl (Nat.le_of_ble_eq_true rfl) dX7_keyOf_40 ⟨Nat.le_of_ble_eq_true rfl, Nat.le_of_ble_eq_true rfl⟩) (fun v7 S6 hf H locs hH => ?_)
    exact q_retI X hH hr hlk hf (Nat.zero_le _) (Nat.zero_le _) dX7_keyOf_43
  · have hf := (if_neg c1).mp hf
    by_cases c8 : a1 = 1
    · have hf := (if_pos c8).mp hf
      refine lv_tableIn (off := 43) (tgt := 44) hx hb dX7_keyOf_1 (by rw [c8]; decide) (by rw [c8]; decide) (by rw [c8]; rfl) (by decide) ?_
      refine lv_aload_n hx hb dX7_keyOf_44 rfl (lv_at hl 0 rfl) ?_
      refine q_getR (T := TX7) (N := 12) X hH hf iw_X7 rfl (by decide) tw_253 (fun _ h => h) dX7_keyOf_45 (fun v9 hf => ?_)
      refine lv_iload_n hx hb dX7_keyOf_48 rfl (lv_at hl 2 rfl) ?_
      obtain ⟨hb1, hb2, hf⟩ := hf
      refine q_backI0 X hH (q_runV [.int a2] [] X hH hl (c_X6_bondsOf l D cy G X.2.2.2.1 S v9 a2 _ _ hf) mf_X6_bondsOf mv_X6_bondsOf tw_374 ⟨Nat.le_of_ble_eq_true rfl, Nat.le_of_ble_eq_true rfl⟩ hb1 hb2 (T := TX6) (N := 6) rfl rfl (Nat.le_of_ble_eq_true rfl) dX7_keyOf_49 ⟨Nat.le_of_ble_eq_true rfl, Nat.le_of_ble_eq_true rfl⟩) (fun v11 S10 hf H locs hH => ?_)
      exact q_retI X hH hr hlk hf (Nat.zero_le _) (Nat.zero_le _) dX7_keyOf_52
    · have hf := (if_neg c8).mp hf
      by_cases c12 : a1 = 2
      · have hf := (if_pos c12).mp hf
        refine lv_tableIn (off := 52) (tgt := 53) hx hb dX7_keyOf_1 (by rw [c12]; decide) (by rw [c12]; decide) (by rw [c12]; rfl) (by decide) ?_
        refine lv_aload_n hx hb dX7_keyOf_53 rfl (lv_at hl 0 rfl) ?_
        refine q_getR (T := TX7) (N := 12) X hH hf iw_X7 rfl (by decide) tw_253 (fun _ h => h) dX7_keyOf_54 (fun v13 hf => ?_)
        refine lv_iload_n hx hb dX7_keyOf_57 rfl (lv_at hl 2 rfl) ?_
        refine lv_aload_n hx hb dX7_keyOf_58 rfl (lv_at hl 0 rfl) ?_
        refine q_getR (T := TX7) (N := 12) X hH hf iw_X7 rfl (by decide) tw_253 (fun _ h => h) dX7_keyOf_59 (fun v14 hf => ?_)
        refine lv_iload_n hx hb dX7_keyOf_62 rfl (lv_at hl 2 rfl) ?_
        obtain ⟨hb1, hb2, hf⟩ := hf
        refine q_backI0 X hH (q_runV [.int a2] [.int a2, .ref v13] X hH hl (c_X6_otherSide l D cy G X.2.2.2.1 S v14 a2 _ _ hf) mf_X6_otherSide mv_X6_otherSide tw_397 ⟨Nat.le_of_ble_eq_true rfl, Nat.le_of_ble_eq_true rfl⟩ hb1 hb2 (T := TX6) (N := 6) rfl rfl (Nat.le_of_ble_eq_true rfl) dX7_keyOf_63 ⟨Nat.le_of_ble_eq_true rfl, Nat.le_of_ble_eq_true rfl⟩) (fun v16 S15 hf H locs hH => ?_)
        obtain ⟨hb1, hb2, hf⟩ := hf
        refine q_backI0 X hH (q_runV [.int a2, .int v16] [] X hH hl (c_X6_tieToSet l D cy G X.2.2.2.1 S15 v13 a2 v16 _ _ hf) mf_X6_tieToSet mv_X6_tieToSet tw_387 ⟨Nat.le_of_ble_eq_true rfl, Nat.le_of_ble_eq_true rfl⟩ hb1 hb2 (T := TX6) (N := 6) rfl rfl (Nat.le_of_ble_eq_true rfl) dX7_keyOf_66 ⟨Nat.le_of_ble_eq_true rfl, Nat.le_of_ble_eq_true rfl⟩) (fun v18 S17 hf H locs hH => ?_)
        exact q_retI X hH hr hlk hf (Nat.zero_le _) (Nat.zero_le _) dX7_keyOf_69
      · have hf := (if_neg c12).mp hf
        refine lv_tableOut (tgt := 70) hx hb dX7_keyOf_1 (by have z0 := lv_neT c1 (a := 0) rfl; have z1 := lv_neT c8 (a := 1) rfl; have z2 := lv_neT c12 (a := 2) rfl; omega) (by decide) ?_
        refine lv_iload_n hx hb dX7_keyOf_70 rfl (lv_at hl 2 rfl) ?_
        refine lv_if_ne (tgt := 80) hx hb dX7_keyOf_71 (by decide) (fun c19 => ?_) (fun c19 => ?_)
        · have hf := (if_neg c19).mp hf
          refine lv_aload_n hx hb dX7_keyOf_80 rfl (lv_at hl 0 rfl) ?_
          refine q_getR (T := TX7) (N := 12) X hH hf iw_X7 rfl (by decide) tw_258 (fun _ h => h) dX7_keyOf_81 (fun v20 hf => ?_)
          refine lv_iconst (v := 0) hx hb dX7_keyOf_84 (by decide) ?_
          refine lv_iload_n hx hb dX7_keyOf_85 rfl (lv_at hl 2 rfl) ?_
          obtain ⟨hb1, hb2, hf⟩ := hf
          refine q_backI0 X hH (q_runV [.int 0, .int a2] [] X hH hl (c_X0_leastApart l D cy G X.2.2.2.1 S v20 0 a2 _ _ hf) mf_X0_leastApart mv_X0_leastApart tw_547 ⟨Nat.le_of_ble_eq_true rfl, Nat.le_of_ble_eq_true rfl⟩ hb1 hb2 (T := TX0) (N := 2) rfl rfl (Nat.le_of_ble_eq_true rfl) dX7_keyOf_86 ⟨Nat.le_of_ble_eq_true rfl, Nat.le_of_ble_eq_true rfl⟩) (fun v22 S21 hf H locs hH => ?_)
          refine lv_ineg hx hb dX7_keyOf_89 ?_
          exact q_retI X hH hr hlk hf (Nat.zero_le _) (Nat.zero_le _) dX7_keyOf_90
        · have hf := (if_pos c19).mp hf
          refine lv_ldcw (v := (-2147483647)) hx hb X.1.2.2.2.1 (X.1.2.2.2.2 _ tw_632) dX7_keyOf_74 ?_
          refine lv_goto (tgt := 90) hx hb dX7_keyOf_77 (by decide) ?_
          exact q_retI X hH hr hlk hf (Nat.zero_le _) (Nat.zero_le _) dX7_keyOf_90
-- X7_householdAtPlace
def f_X7_householdAtPlace_L2 (post : Int32 → PS → Prop) : Nat → PS → Nat → Int32 → Int32 → Prop
  | 0, _, _, _, _ => False
  | n + 1, S, l0, l1, l2 =>
  gR S l0 11 0 fun v1 => (
  gI S v1 10 1 fun v2 => (
  if v2 ≤ l2 then
    post (-1) S
  else
    isO S l0 11 (
    f_X7_placeOf S l0 l2 fun v5 S4 => (
    if v5 = l1 then
      post l2 S4
    else
      (f_X7_householdAtPlace_L2 post n) S4 l0 l1 (l2 + 1)))))
def f_X7_householdAtPlace (S : PS) (a0 : Nat) (a1 : Int32) (post : Int32 → PS → Prop) : Prop :=
  f_X7_householdAtPlace_L2 post 4096 S a0 a1 0
abbrev rm_X7_householdAtPlace : Room := { frames := 1, cells := 0, slots := 0, locals := 24 }
set_option maxHeartbeats 4000000 in
set_option maxRecDepth 100000 in
theorem c_X7_householdAtPlace (l : Launch) (D : va_G) (cy : Nat → ClassId) (G : p_GT) (hG : p_ok G) (S : PS) (a0 : Nat) (a1 : Int32) (post : Int32 → PS → Prop) (sz : Nat) (hf : f_X7_householdAtPlace S a0 a1 post) : p_Mi l D cy G S sz yX7_householdAtPlace (Cond.code yX7_householdAtPlace cX7_householdAtPlace 3 (some .int) :: wG) rm_X7_householdAtPlace [.ref a0, .int a1] 0 0 post := by
  refine q_start hG (Qc := fun A => va_Qi post (p_Post D cy A) A) mf_X7_householdAtPlace (Nat.le_of_ble_eq_true rfl) (own := RX7) rfl ?_
  intro p e s m below meth c A X hr hlk hnm ls hl hH
  have hx := X.1.1
  have hb := X.1.2.1
  replace hl : lv_has ls 3 [(0, .ref a0), (1, .int a1)] := hl
  obtain ⟨H, hHe⟩ : ∃ H, H = s.heap := ⟨_, rfl⟩
  obtain ⟨locs, hlo⟩ : ∃ locs : List Loc, locs = [] := ⟨_, rfl⟩
  rw [← hHe, ← hlo] at hH
  show W p l e rm_X7_householdAtPlace s m [.ref a0, .int a1].toArray below meth c s.heap [] 0 0 _ _
  rw [← hHe, ← hlo]
  have hL2 : ∀ (n2 : Nat) (S : PS) (l0 : Nat) (l1 : Int32) (l2 : Int32), f_X7_householdAtPlace_L2 post n2 S l0 l1 l2 → ∀ (H : Heap) (locs : List Loc) (ls : Array Slot), p_H D cy S A s H locs → lv_has ls 3 [(0, .ref l0), (1, .int l1), (2, .int l2)] → W p l e rm_X7_householdAtPlace s m [.ref a0, .int a1].toArray below meth c H locs 0 0 (MQ below (va_Qi post (p_Post D cy A) A) [.ref a0, .int a1].toArray s 0 0 A) (F0 m 2 ls []) := by
    intro n2
    induction n2 with
    | zero => intro S l0 l1 l2 hf; exact hf.elim
    | succ n2 ih2 =>
      intro S l0 l1 l2 hf H locs ls hH hl
      refine lv_iload_n hx hb dX7_householdAtPlace_2 rfl (lv_at hl 2 rfl) ?_
      refine lv_aload_n hx hb dX7_householdAtPlace_3 rfl (lv_at hl 0 rfl) ?_
      refine q_getR (T := TX7) (N := 12) X hH hf iw_X7 rfl (by decide) tw_253 (fun _ h => h) dX7_householdAtPlace_4 (fun v1 hf => ?_)
      refine q_getIN (T := TX6) (N := 6) X hH hf iw_X6 rfl (by decide) (List.mem_of_getElem? (i := 0) rfl) (fun _ h => h) dX7_householdAtPlace_7 (fun v2 hf => ?_)
      refine lv_icmp_ge (tgt := 30) hx hb dX7_householdAtPlace_10 (by decide) (fun c3 => ?_) (fun c3 => ?_)
      · have hf := (if_pos c3).mp hf
        refine lv_iconst (v := (-1)) hx hb dX7_householdAtPlace_30 (by decide) ?_
        exact q_retI X hH hr hlk hf (Nat.zero_le _) (Nat.zero_le _) dX7_householdAtPlace_31
      · have hf := (if_neg c3).mp hf
        refine lv_aload_n hx hb dX7_householdAtPlace_13 rfl (lv_at hl 0 rfl) ?_
        refine lv_iload_n hx hb dX7_householdAtPlace_14 rfl (lv_at hl 2 rfl) ?_
        obtain ⟨hb1, hb2, hf⟩ := hf
        refine q_backI0 X hH (q_runV [.int l2] [] X hH hl (c_X7_placeOf l D cy G X.2.2.2.1 S l0 l2 _ _ hf) mf_X7_placeOf mv_X7_placeOf tw_637 ⟨Nat.le_of_ble_eq_true rfl, Nat.le_of_ble_eq_true rfl⟩ hb1 hb2 (T := TX7) (N := 12) rfl rfl (Nat.le_of_ble_eq_true rfl) dX7_householdAtPlace_15 ⟨Nat.le_of_ble_eq_true rfl, Nat.le_of_ble_eq_true rfl⟩) (fun v5 S4 hf H locs hH => ?_)
        refine lv_iload_n hx hb dX7_householdAtPlace_18 rfl (lv_at hl 1 rfl) ?_
        refine lv_icmp_ne (tgt := 24) hx hb dX7_householdAtPlace_19 (by decide) (fun c6 => ?_) (fun c6 => ?_)
        · have hf := (if_neg c6).mp hf
          refine lv_iinc (v := l2 + 1) (lv' := [(2, .int (l2 + 1)), (0, .ref l0), (1, .int l1)]) hx hb dX7_householdAtPlace_24 hl (k := 2) rfl rfl (by decide) rfl (fun ls hl => ?_)
          refine lv_goto (tgt := 2) hx hb dX7_householdAtPlace_27 (by decide) ?_
          exact ih2 S4 l0 l1 (l2 + 1) hf H locs ls hH (lv_sub hl [1, 2, 0] rfl)
        · have hf := (if_pos c6).mp hf
          refine lv_iload_n hx hb dX7_householdAtPlace_22 rfl (lv_at hl 2 rfl) ?_
          exact q_retI X hH hr hlk hf (Nat.zero_le _) (Nat.zero_le _) dX7_householdAtPlace_23
  refine lv_iconst (v := 0) hx hb dX7_householdAtPlace_0 (by decide) ?_
  refine lv_istore_n (lv' := [(2, .int 0), (0, .ref a0), (1, .int a1)]) hx hb dX7_householdAtPlace_1 rfl hl (by decide) rfl (fun ls hl => ?_)
  exact hL2 4096 S a0 a1 0 hf H locs ls hH (lv_sub hl [1, 2, 0] rfl)
-- X0_measure
def f_X0_measure_L26 (post : PS → Prop) : Nat → PS → Nat → Nat → Int32 → Prop
  | 0, _, _, _, _ => False
  | n + 1, S, l0, l1, l2 =>
  gI S l0 4 1 fun v1 => (
  if v1 ≤ l2 then
    post S
  else
    gR S l0 4 0 fun v3 => (
    lE S v3 fun v4 => (
    if v4 ≤ l2 then
      post S
    else
      f_X7_lowestOf S l2 fun v7 S6 => (
      gR S6 l0 4 0 fun v8 => (
      gR S6 l0 4 0 fun v9 => (
      aI S6 v9 0 (l2 &&& (((1 : Int32) <<< (v7 &&& 31)) ^^^ (-1))) fun v10 => (
      isO S6 l1 10 (
      f_X6_everyone S6 l1 fun v12 S11 => (
      isO S11 l1 10 (
      f_X6_tieToSet S11 l1 v7 v12 fun v14 S13 => (
      isO S13 l1 10 (
      f_X6_tieToSet S13 l1 v7 (l2 &&& (((1 : Int32) <<< (v7 &&& 31)) ^^^ (-1))) fun v16 S15 => (
      sI S15 v8 0 l2 ((v10 + v14) - ((2 : Int32) * v16)) fun S17 => (
      (f_X0_measure_L26 post n) S17 l0 l1 (l2 + 1)))))))))))))))
def f_X0_measure_J21 (post : PS → Prop) (S : PS) (l0 : Nat) (l1 : Nat) (t0 : Int32) (t1 : Nat) : Prop :=
  pV S t1 4 1 (.int t0) fun S1 => (
  f_X0_measure_L26 post 4096 S1 l0 l1 1)
def f_X0_measure (S : PS) (a0 : Nat) (a1 : Nat) (post : PS → Prop) : Prop :=
  gI S a1 10 1 fun v1 => (
  if 2 ≤ v1 then
    gI S a1 10 1 fun v3 => (
    f_X0_measure_J21 post S a0 a1 ((1 : Int32) <<< ((v3 - 1) &&& 31)) a0)
  else
    f_X0_measure_J21 post S a0 a1 0 a0)
abbrev rm_X0_measure : Room := { frames := 3, cells := 0, slots := 0, locals := 67 }
set_option maxHeartbeats 4000000 in
set_option maxRecDepth 100000 in
theorem c_X0_measure (l : Launch) (D : va_G) (cy : Nat → ClassId) (G : p_GT) (hG : p_ok G) (S : PS) (a0 : Nat) (a1 : Nat) (post : PS → Prop) (sz : Nat) (hf : f_X0_measure S a0 a1 post) : p_Mv l D cy G S sz yX0_measure (Cond.code yX0_measure cX0_measure 5 none :: wG) rm_X0_measure [.ref a0, .ref a1] 0 0 post := by
  refine q_start hG (Qc := fun A => va_Qv post (p_Post D cy A) A) mf_X0_measure (Nat.le_of_ble_eq_true rfl) (own := RX0) rfl ?_
  intro p e s m below meth c A X hr hlk hnm ls hl hH
  have hx := X.1.1
  have hb := X.1.2.1
  replace hl : lv_has ls 5 [(0, .ref a0), (1, .ref a1)] := hl
  obtain ⟨H, hHe⟩ : ∃ H, H = s.heap := ⟨_, rfl⟩
  obtain ⟨locs, hlo⟩ : ∃ locs : List Loc, locs = [] := ⟨_, rfl⟩
  rw [← hHe, ← hlo] at hH
  show W p l e rm_X0_measure s m [.ref a0, .ref a1].toArray below meth c s.heap [] 0 0 _ _
  rw [← hHe, ← hlo]
  have hJ21 : ∀ (S : PS) (l0 : Nat) (l1 : Nat) (t0 : Int32) (t1 : Nat), f_X0_measure_J21 post S l0 l1 t0 t1 → ∀ (H : Heap) (locs : List Loc) (ls : Array Slot), p_H D cy S A s H locs → lv_has ls 5 [(0, .ref l0), (1, .ref l1)] → W p l e rm_X0_measure s m [.ref a0, .ref a1].toArray below meth c H locs 0 0 (MQ below (va_Qv post (p_Post D cy A) A) [.ref a0, .ref a1].toArray s 0 0 A) (F0 m 21 ls [.int t0, .ref t1]) := by
    intro S l0 l1 t0 t1 hf H locs ls hH hl
    have hL26 : ∀ (n26 : Nat) (S : PS) (l0 : Nat) (l1 : Nat) (l2 : Int32), f_X0_measure_L26 post n26 S l0 l1 l2 → ∀ (H : Heap) (locs : List Loc) (ls : Array Slot), p_H D cy S A s H locs → lv_has ls 5 [(0, .ref l0), (1, .ref l1), (2, .int l2)] → W p l e rm_X0_measure s m [.ref a0, .ref a1].toArray below meth c H locs 0 0 (MQ below (va_Qv post (p_Post D cy A) A) [.ref a0, .ref a1].toArray s 0 0 A) (F0 m 26 ls []) := by
      intro n26
      induction n26 with
      | zero => intro S l0 l1 l2 hf; exact hf.elim
      | succ n26 ih26 =>
        intro S l0 l1 l2 hf H locs ls hH hl
        refine lv_iload_n hx hb dX0_measure_26 rfl (lv_at hl 2 rfl) ?_
        refine lv_aload_n hx hb dX0_measure_27 rfl (lv_at hl 0 rfl) ?_
        refine q_getI (T := TX0) (N := 2) X hH hf iw_X0 rfl (by decide) tw_149 (fun _ h => h) dX0_measure_28 (fun v1 hf => ?_)
        refine lv_icmp_ge (tgt := 96) hx hb dX0_measure_31 (by decide) (fun c2 => ?_) (fun c2 => ?_)
        · have hf := (if_pos c2).mp hf
          exact q_retV X hH hr hlk hf (Nat.zero_le _) (Nat.zero_le _) dX0_measure_96
        · have hf := (if_neg c2).mp hf
          refine lv_iload_n hx hb dX0_measure_34 rfl (lv_at hl 2 rfl) ?_
          refine lv_aload_n hx hb dX0_measure_35 rfl (lv_at hl 0 rfl) ?_
          refine q_getR (T := TX0) (N := 2) X hH hf iw_X0 rfl (by decide) tw_148 (fun _ h => h) dX0_measure_36 (fun v3 hf => ?_)
          refine q_alen X hH hf dX0_measure_39 (fun v4 hf => ?_)
          refine lv_icmp_ge (tgt := 96) hx hb dX0_measure_40 (by decide) (fun c5 => ?_) (fun c5 => ?_)
          · have hf := (if_pos c5).mp hf
            exact q_retV X hH hr hlk hf (Nat.zero_le _) (Nat.zero_le _) dX0_measure_96
          · have hf := (if_neg c5).mp hf
            refine lv_iload_n hx hb dX0_measure_43 rfl (lv_at hl 2 rfl) ?_
            refine q_backI0 X hH (q_runSN [.int l2] [] X hH hl (c_X7_lowestOf l D cy G X.2.2.2.1 S l2 _ _ hf) mf_X7_lowestOf tw_492 (List.mem_of_getElem? (i := 14) rfl) ⟨Nat.le_of_ble_eq_true rfl, Nat.le_of_ble_eq_true rfl⟩ rfl (Nat.le_of_ble_eq_true rfl) dX0_measure_44 ⟨Nat.le_of_ble_eq_true rfl, Nat.le_of_ble_eq_true rfl⟩) (fun v7 S6 hf H locs hH => ?_)
            refine lv_istore_n (lv' := [(3, .int v7), (0, .ref l0), (1, .ref l1), (2, .int l2)]) hx hb dX0_measure_47 rfl hl (by decide) rfl (fun ls hl => ?_)
            refine lv_iload_n hx hb dX0_measure_48 rfl (lv_at hl 3 rfl) ?_
            refine lv_iconst (v := 1) hx hb dX0_measure_49 (by decide) ?_
            refine lv_iload_n hx hb dX0_measure_50 rfl (lv_at hl 0 rfl) ?_
            refine lv_ishl hx hb dX0_measure_51 ?_
            refine lv_iconst (v := (-1)) hx hb dX0_measure_52 (by decide) ?_
            refine lv_ixor hx hb dX0_measure_53 ?_
            refine lv_iand hx hb dX0_measure_54 ?_
            refine lv_istore (lv' := [(4, .int (l2 &&& (((1 : Int32) <<< (v7 &&& 31)) ^^^ (-1)))), (3, .int v7), (0, .ref l0), (1, .ref l1), (2, .int l2)]) hx hb dX0_measure_55 hl (by decide) rfl (fun ls hl => ?_)
            refine lv_aload_n hx hb dX0_measure_57 rfl (lv_at hl 2 rfl) ?_
            refine q_getR (T := TX0) (N := 2) X hH hf iw_X0 rfl (by decide) tw_148 (fun _ h => h) dX0_measure_58 (fun v8 hf => ?_)
            refine lv_iload_n hx hb dX0_measure_61 rfl (lv_at hl 4 rfl) ?_
            refine lv_aload_n hx hb dX0_measure_62 rfl (lv_at hl 2 rfl) ?_
            refine q_getR (T := TX0) (N := 2) X hH hf iw_X0 rfl (by decide) tw_148 (fun _ h => h) dX0_measure_63 (fun v9 hf => ?_)
            refine lv_iload hx hb dX0_measure_66 (lv_at hl 0 rfl) ?_
            refine q_iald X hH hf dX0_measure_68 (fun v10 hf => ?_)
            refine lv_aload_n hx hb dX0_measure_69 rfl (lv_at hl 3 rfl) ?_
            refine lv_iload_n hx hb dX0_measure_70 rfl (lv_at hl 1 rfl) ?_
            refine lv_aload_n hx hb dX0_measure_71 rfl (lv_at hl 3 rfl) ?_
            obtain ⟨hb1, hb2, hf⟩ := hf
            refine q_backI0 X hH (q_runV [] [.int v7, .ref l1, .int v10, .int l2, .ref v8] X hH hl (c_X6_everyone l D cy G X.2.2.2.1 S6 l1 _ _ hf) mf_X6_everyone mv_X6_everyone tw_545 ⟨Nat.le_of_ble_eq_true rfl, Nat.le_of_ble_eq_true rfl⟩ hb1 hb2 (T := TX6) (N := 6) rfl rfl (Nat.le_of_ble_eq_true rfl) dX0_measure_72 ⟨Nat.le_of_ble_eq_true rfl, Nat.le_of_ble_eq_true rfl⟩) (fun v12 S11 hf H locs hH => ?_)
            obtain ⟨hb1, hb2, hf⟩ := hf
            refine q_backI0 X hH (q_runV [.int v7, .int v12] [.int v10, .int l2, .ref v8] X hH hl (c_X6_tieToSet l D cy G X.2.2.2.1 S11 l1 v7 v12 _ _ hf) mf_X6_tieToSet mv_X6_tieToSet tw_546 ⟨Nat.le_of_ble_eq_true rfl, Nat.le_of_ble_eq_true rfl⟩ hb1 hb2 (T := TX6) (N := 6) rfl rfl (Nat.le_of_ble_eq_true rfl) dX0_measure_75 ⟨Nat.le_of_ble_eq_true rfl, Nat.le_of_ble_eq_true rfl⟩) (fun v14 S13 hf H locs hH => ?_)
            refine lv_iadd hx hb dX0_measure_78 ?_
            refine lv_iconst (v := 2) hx hb dX0_measure_79 (by decide) ?_
            refine lv_aload_n hx hb dX0_measure_80 rfl (lv_at hl 3 rfl) ?_
            refine lv_iload_n hx hb dX0_measure_81 rfl (lv_at hl 1 rfl) ?_
            refine lv_iload hx hb dX0_measure_82 (lv_at hl 0 rfl) ?_
            obtain ⟨hb1, hb2, hf⟩ := hf
            refine q_backI0 X hH (q_runV [.int v7, .int (l2 &&& (((1 : Int32) <<< (v7 &&& 31)) ^^^ (-1)))] [.int 2, .int (v10 + v14), .int l2, .ref v8] X hH hl (c_X6_tieToSet l D cy G X.2.2.2.1 S13 l1 v7 (l2 &&& (((1 : Int32) <<< (v7 &&& 31)) ^^^ (-1))) _ _ hf) mf_X6_tieToSet mv_X6_tieToSet tw_546 ⟨Nat.le_of_ble_eq_true rfl, Nat.le_of_ble_eq_true rfl⟩ hb1 hb2 (T := TX6) (N := 6) rfl rfl (Nat.le_of_ble_eq_true rfl) dX0_measure_84 ⟨Nat.le_of_ble_eq_true rfl, Nat.le_of_ble_eq_true rfl⟩) (fun v16 S15 hf H locs hH => ?_)
            refine lv_imul hx hb dX0_measure_87 ?_
            refine lv_isub hx hb dX0_measure_88 ?_
            refine q_iast X hH hf dX0_measure_89 (fun S17 hf H locs hH => ?_)
            refine lv_iinc (v := l2 + 1) (lv' := [(2, .int (l2 + 1)), (4, .int (l2 &&& (((1 : Int32) <<< (v7 &&& 31)) ^^^ (-1)))), (3, .int v7), (0, .ref l0), (1, .ref l1)]) hx hb dX0_measure_90 hl (k := 4) rfl rfl (by decide) rfl (fun ls hl => ?_)
            refine lv_goto (tgt := 26) hx hb dX0_measure_93 (by decide) ?_
            exact ih26 S17 l0 l1 (l2 + 1) hf H locs ls hH (lv_sub hl [3, 4, 0] rfl)
    refine q_putV (T := TX0) (N := 2) (ty0 := tyX0) (ty := tyX0 1) X hH hf iw_X0 tyX0_ok nmX0 rfl (by decide) tw_149 (fun _ h => h) rfl (tyX0_ok 1 (by decide)) rfl rfl dX0_measure_21 (fun S1 hf H locs hH => ?_)
    refine lv_iconst (v := 1) hx hb dX0_measure_24 (by decide) ?_
    refine lv_istore_n (lv' := [(2, .int 1), (0, .ref l0), (1, .ref l1)]) hx hb dX0_measure_25 rfl hl (by decide) rfl (fun ls hl => ?_)
    exact hL26 4096 S1 l0 l1 1 hf H locs ls hH (lv_sub hl [1, 2, 0] rfl)
  refine lv_aload_n hx hb dX0_measure_0 rfl (lv_at hl 0 rfl) ?_
  refine lv_aload_n hx hb dX0_measure_1 rfl (lv_at hl 1 rfl) ?_
  refine q_getIN (T := TX6) (N := 6) X hH hf iw_X6 rfl (by decide) (List.mem_of_getElem? (i := 5) rfl) (fun _ h => h) dX0_measure_2 (fun v1 hf => ?_)
  refine lv_iconst (v := 2) hx hb dX0_measure_5 (by decide) ?_
  refine lv_icmp_ge (tgt := 13) hx hb dX0_measure_6 (by decide) (fun c2 => ?_) (fun c2 => ?_)
  · have hf := (if_pos c2).mp hf
    refine lv_iconst (v := 1) hx hb dX0_measure_13 (by decide) ?_
    refine lv_aload_n hx hb dX0_measure_14 rfl (lv_at hl 1 rfl) ?_
    refine q_getIN (T := TX6) (N := 6) X hH hf iw_X6 rfl (by decide) (List.mem_of_getElem? (i := 5) rfl) (fun _ h => h) dX0_measure_15 (fun v3 hf => ?_)
    refine lv_iconst (v := 1) hx hb dX0_measure_18 (by decide) ?_
    refine lv_isub hx hb dX0_measure_19 ?_
    refine lv_ishl hx hb dX0_measure_20 ?_
    exact hJ21 S a0 a1 ((1 : Int32) <<< ((v3 - 1) &&& 31)) a0 hf H locs ls hH hl
  · have hf := (if_neg c2).mp hf
    refine lv_iconst (v := 0) hx hb dX0_measure_9 (by decide) ?_
    refine lv_goto (tgt := 21) hx hb dX0_measure_10 (by decide) ?_
    exact hJ21 S a0 a1 0 a0 hf H locs ls hH hl
-- X1_findsPath
def f_X1_findsPath_J123 (post : Int32 → PS → Prop) (S : PS) (l2 : Int32) (l3 : Int32) : Prop :=
  f_X7_isIn S l3 l2 fun v2 S1 => (
  nZ .boolean v2 (post v2 S1))
def f_X1_findsPath_J117 (post : Int32 → PS → Prop) (g17 : PS → Nat → Int32 → Int32 → Int32 → Int32 → Prop) (S : PS) (l0 : Nat) (l2 : Int32) (l3 : Int32) (l4 : Int32) (l5 : Int32) : Prop :=
  g17 S l0 l2 l3 l4 (l5 + 1)
def f_X1_findsPath_J111 (post : Int32 → PS → Prop) (g46 : PS → Nat → Int32 → Int32 → Int32 → Int32 → Int32 → Int32 → Prop) (S : PS) (l0 : Nat) (l2 : Int32) (l3 : Int32) (l4 : Int32) (l5 : Int32) (l6 : Int32) (l7 : Int32) : Prop :=
  g46 S l0 l2 l3 l4 l5 l6 (l7 + 1)
def f_X1_findsPath_L46 (post : Int32 → PS → Prop) (g17 : PS → Nat → Int32 → Int32 → Int32 → Int32 → Prop) : Nat → PS → Nat → Int32 → Int32 → Int32 → Int32 → Int32 → Int32 → Prop
  | 0, _, _, _, _, _, _, _, _ => False
  | n + 1, S, l0, l2, l3, l4, l5, l6, l7 =>
  if 9 ≤ l7 then
    f_X1_findsPath_J117 post g17 S l0 l2 l3 l4 l5
  else
    f_X7_isIn S l3 l7 fun v3 S2 => (
    if v3 = 0 then
      isO S2 l0 5 (
      f_X1_roomOn S2 l0 l6 l7 fun v6 S5 => (
      if v6 ≤ 0 then
        f_X1_findsPath_J111 post (f_X1_findsPath_L46 post g17 n) S5 l0 l2 l3 l4 l5 l6 l7
      else
        gR S5 l0 5 2 fun v8 => (
        lE S5 v8 fun v9 => (
        if v9 ≤ l4 then
          f_X1_findsPath_J111 post (f_X1_findsPath_L46 post g17 n) S5 l0 l2 l3 l4 l5 l6 l7
        else
          gR S5 l0 5 1 fun v11 => (
          sI S5 v11 0 l7 l6 fun S12 => (
          gR S12 l0 5 2 fun v13 => (
          sI S12 v13 0 l4 l7 fun S14 => (
          f_X1_findsPath_J111 post (f_X1_findsPath_L46 post g17 n) S14 l0 l2 (l3 ||| ((1 : Int32) <<< (l7 &&& 31))) (l4 + 1) l5 l6 l7))))))))
    else
      f_X1_findsPath_J111 post (f_X1_findsPath_L46 post g17 n) S2 l0 l2 l3 l4 l5 l6 l7)
def f_X1_findsPath_L17 (post : Int32 → PS → Prop) : Nat → PS → Nat → Int32 → Int32 → Int32 → Int32 → Prop
  | 0, _, _, _, _, _, _ => False
  | n + 1, S, l0, l2, l3, l4, l5 =>
  if l4 ≤ l5 then
    f_X1_findsPath_J123 post S l2 l3
  else
    gR S l0 5 2 fun v2 => (
    lE S v2 fun v3 => (
    if v3 ≤ l5 then
      f_X1_findsPath_J123 post S l2 l3
    else
      gR S l0 5 2 fun v5 => (
      aI S v5 0 l5 fun v6 => (
      f_X1_findsPath_L46 post (f_X1_findsPath_L17 post n) 4096 S l0 l2 l3 l4 l5 v6 0))))
def f_X1_findsPath (S : PS) (a0 : Nat) (a1 : Int32) (a2 : Int32) (post : Int32 → PS → Prop) : Prop :=
  gR S a0 5 2 fun v1 => (
  sI S v1 0 0 a1 fun S2 => (
  f_X1_findsPath_L17 post 4096 S2 a0 a2 ((1 : Int32) <<< (a1 &&& 31)) 1 0))
abbrev rm_X1_findsPath : Room := { frames := 2, cells := 0, slots := 0, locals := 43 }
set_option maxHeartbeats 4000000 in
set_option maxRecDepth 100000 in
theorem c_X1_findsPath (l : Launch) (D : va_G) (cy : Nat → ClassId) (G : p_GT) (hG : p_ok G) (S : PS) (a0 : Nat) (a1 : Int32) (a2 : Int32) (post : Int32 → PS → Prop) (sz : Nat) (hf : f_X1_findsPath S a0 a1 a2 post) : p_Mi l D cy G S sz yX1_findsPath (Cond.code yX1_findsPath cX1_findsPath 8 (some .boolean) :: wG) rm_X1_findsPath [.ref a0, .int a1, .int a2] 0 0 post := by
  refine q_start hG (Qc := fun A => va_Qi post (p_Post D cy A) A) mf_X1_findsPath (Nat.le_of_ble_eq_true rfl) (own := RX1) rfl ?_
  intro p e s m below meth c A X hr hlk hnm ls hl hH
  have hx := X.1.1
  have hb := X.1.2.1
  replace hl : lv_has ls 8 [(0, .ref a0), (1, .int a1), (2, .int a2)] := hl
  obtain ⟨H, hHe⟩ : ∃ H, H = s.heap := ⟨_, rfl⟩
  obtain ⟨locs, hlo⟩ : ∃ locs : List Loc, locs = [] := ⟨_, rfl⟩
  rw [← hHe, ← hlo] at hH
  show W p l e rm_X1_findsPath s m [.ref a0, .int a1, .int a2].toArray below meth c s.heap [] 0 0 _ _
  rw [← hHe, ← hlo]
  have hL17 : ∀ (n17 : Nat) (S : PS) (l0 : Nat) (l2 : Int32) (l3 : Int32) (l4 : Int32) (l5 : Int32), f_X1_findsPath_L17 post n17 S l0 l2 l3 l4 l5 → ∀ (H : Heap) (locs : List Loc) (ls : Array Slot), p_H D cy S A s H locs → lv_has ls 8 [(0, .ref l0), (2, .int l2), (3, .int l3), (4, .int l4), (5, .int l5)] → W p l e rm_X1_findsPath s m [.ref a0, .int a1, .int a2].toArray below meth c H locs 0 0 (MQ below (va_Qi post (p_Post D cy A) A) [.ref a0, .int a1, .int a2].toArray s 0 0 A) (F0 m 17 ls []) := by
    intro n17
    induction n17 with
    | zero => intro S l0 l2 l3 l4 l5 hf; exact hf.elim
    | succ n17 ih17 =>
      intro S l0 l2 l3 l4 l5 hf H locs ls hH hl
      have hJ123 : ∀ (S : PS) (l2 : Int32) (l3 : Int32), f_X1_findsPath_J123 post S l2 l3 → ∀ (H : Heap) (locs : List Loc) (ls : Array Slot), p_H D cy S A s H locs → lv_has ls 8 [(2, .int l2), (3, .int l3)] → W p l e rm_X1_findsPath s m [.ref a0, .int a1, .int a2].toArray below meth c H locs 0 0 (MQ below (va_Qi post (p_Post D cy A) A) [.ref a0, .int a1, .int a2].toArray s 0 0 A) (F0 m 123 ls []) := by
        intro S l2 l3 hf H locs ls hH hl
        refine lv_iload_n hx hb dX1_findsPath_123 rfl (lv_at hl 1 rfl) ?_
        refine lv_iload_n hx hb dX1_findsPath_124 rfl (lv_at hl 0 rfl) ?_
        refine q_backI0 X hH (q_runSN [.int l3, .int l2] [] X hH hl (c_X7_isIn l D cy G X.2.2.2.1 S l3 l2 _ _ hf) mf_X7_isIn tw_372 (List.mem_of_getElem? (i := 16) rfl) ⟨Nat.le_of_ble_eq_true rfl, Nat.le_of_ble_eq_true rfl⟩ rfl (Nat.le_of_ble_eq_true rfl) dX1_findsPath_125 ⟨Nat.le_of_ble_eq_true rfl, Nat.le_of_ble_eq_true rfl⟩) (fun v2 S1 hf H locs hH => ?_)
        exact q_retZ X hH hr hlk hf (Nat.zero_le _) (Nat.zero_le _) dX1_findsPath_128
      have hL46 : ∀ (n46 : Nat) (S : PS) (l0 : Nat) (l2 : Int32) (l3 : Int32) (l4 : Int32) (l5 : Int32) (l6 : Int32) (l7 : Int32), f_X1_findsPath_L46 post (f_X1_findsPath_L17 post n17) n46 S l0 l2 l3 l4 l5 l6 l7 → ∀ (H : Heap) (locs : List Loc) (ls : Array Slot), p_H D cy S A s H locs → lv_has ls 8 [(0, .ref l0), (2, .int l2), (3, .int l3), (4, .int l4), (5, .int l5), (6, .int l6), (7, .int l7)] → W p l e rm_X1_findsPath s m [.ref a0, .int a1, .int a2].toArray below meth c H locs 0 0 (MQ below (va_Qi post (p_Post D cy A) A) [.ref a0, .int a1, .int a2].toArray s 0 0 A) (F0 m 46 ls []) := by
        intro n46
        induction n46 with
        | zero => intro S l0 l2 l3 l4 l5 l6 l7 hf; exact hf.elim
        | succ n46 ih46 =>
          intro S l0 l2 l3 l4 l5 l6 l7 hf H locs ls hH hl
          have hJ117 : ∀ (S : PS) (l0 : Nat) (l2 : Int32) (l3 : Int32) (l4 : Int32) (l5 : Int32), f_X1_findsPath_J117 post (f_X1_findsPath_L17 post n17) S l0 l2 l3 l4 l5 → ∀ (H : Heap) (locs : List Loc) (ls : Array Slot), p_H D cy S A s H locs → lv_has ls 8 [(0, .ref l0), (2, .int l2), (3, .int l3), (4, .int l4), (5, .int l5)] → W p l e rm_X1_findsPath s m [.ref a0, .int a1, .int a2].toArray below meth c H locs 0 0 (MQ below (va_Qi post (p_Post D cy A) A) [.ref a0, .int a1, .int a2].toArray s 0 0 A) (F0 m 117 ls []) := by
            intro S l0 l2 l3 l4 l5 hf H locs ls hH hl
            refine lv_iinc (v := l5 + 1) (lv' := [(5, .int (l5 + 1)), (0, .ref l0), (2, .int l2), (3, .int l3), (4, .int l4)]) hx hb dX1_findsPath_117 hl (k := 4) rfl rfl (by decide) rfl (fun ls hl => ?_)
            refine lv_goto (tgt := 17) hx hb dX1_findsPath_120 (by decide) ?_
            exact ih17 S l0 l2 l3 l4 (l5 + 1) hf H locs ls hH (lv_sub hl [1, 2, 3, 4, 0] rfl)
          have hJ111 : ∀ (S : PS) (l0 : Nat) (l2 : Int32) (l3 : Int32) (l4 : Int32) (l5 : Int32) (l6 : Int32) (l7 : Int32), f_X1_findsPath_J111 post (f_X1_findsPath_L46 post (f_X1_findsPath_L17 post n17) n46) S l0 l2 l3 l4 l5 l6 l7 → ∀ (H : Heap) (locs : List Loc) (ls : Array Slot), p_H D cy S A s H locs → lv_has ls 8 [(0, .ref l0), (2, .int l2), (3, .int l3), (4, .int l4), (5, .int l5), (6, .int l6), (7, .int l7)] → W p l e rm_X1_findsPath s m [.ref a0, .int a1, .int a2].toArray below meth c H locs 0 0 (MQ below (va_Qi post (p_Post D cy A) A) [.ref a0, .int a1, .int a2].toArray s 0 0 A) (F0 m 111 ls []) := by
            intro S l0 l2 l3 l4 l5 l6 l7 hf H locs ls hH hl
            refine lv_iinc (v := l7 + 1) (lv' := [(7, .int (l7 + 1)), (0, .ref l0), (2, .int l2), (3, .int l3), (4, .int l4), (5, .int l5), (6, .int l6)]) hx hb dX1_findsPath_111 hl (k := 6) rfl rfl (by decide) rfl (fun ls hl => ?_)
            refine lv_goto (tgt := 46) hx hb dX1_findsPath_114 (by decide) ?_
            exact ih46 S l0 l2 l3 l4 l5 l6 (l7 + 1) hf H locs ls hH (lv_sub hl [1, 2, 3, 4, 5, 6, 0] rfl)
          refine lv_iload hx hb dX1_findsPath_46 (lv_at hl 6 rfl) ?_
          refine lv_bipush (v := 9) hx hb dX1_findsPath_48 (by decide) ?_
          refine lv_icmp_ge (tgt := 117) hx hb dX1_findsPath_50 (by decide) (fun c1 => ?_) (fun c1 => ?_)
          · have hf := (if_pos c1).mp hf
            exact hJ117 S l0 l2 l3 l4 l5 hf H locs ls hH (lv_sub hl [0, 1, 2, 3, 4] rfl)
          · have hf := (if_neg c1).mp hf
            refine lv_iload_n hx hb dX1_findsPath_53 rfl (lv_at hl 2 rfl) ?_
            refine lv_iload hx hb dX1_findsPath_54 (lv_at hl 6 rfl) ?_
            refine q_backI0 X hH (q_runSN [.int l3, .int l7] [] X hH hl (c_X7_isIn l D cy G X.2.2.2.1 S l3 l7 _ _ hf) mf_X7_isIn tw_372 (List.mem_of_getElem? (i := 16) rfl) ⟨Nat.le_of_ble_eq_true rfl, Nat.le_of_ble_eq_true rfl⟩ rfl (Nat.le_of_ble_eq_true rfl) dX1_findsPath_56 ⟨Nat.le_of_ble_eq_true rfl, Nat.le_of_ble_eq_true rfl⟩) (fun v3 S2 hf H locs hH => ?_)
            refine lv_if_ne (tgt := 111) hx hb dX1_findsPath_59 (by decide) (fun c4 => ?_) (fun c4 => ?_)
            · have hf := (if_neg c4).mp hf
              exact hJ111 S2 l0 l2 l3 l4 l5 l6 l7 hf H locs ls hH hl
            · have hf := (if_pos c4).mp hf
              refine lv_aload_n hx hb dX1_findsPath_62 rfl (lv_at hl 0 rfl) ?_
              refine lv_iload hx hb dX1_findsPath_63 (lv_at hl 5 rfl) ?_
              refine lv_iload hx hb dX1_findsPath_65 (lv_at hl 6 rfl) ?_
              obtain ⟨hb1, hb2, hf⟩ := hf
              refine q_backI0 X hH (q_runV [.int l6, .int l7] [] X hH hl (c_X1_roomOn l D cy G X.2.2.2.1 S2 l0 l6 l7 _ _ hf) mf_X1_roomOn mv_X1_roomOn tw_568 ⟨Nat.le_of_ble_eq_true rfl, Nat.le_of_ble_eq_true rfl⟩ hb1 hb2 (T := TX1) (N := 3) rfl rfl (Nat.le_of_ble_eq_true rfl) dX1_findsPath_67 ⟨Nat.le_of_ble_eq_true rfl, Nat.le_of_ble_eq_true rfl⟩) (fun v6 S5 hf H locs hH => ?_)
              refine lv_if_le (tgt := 111) hx hb dX1_findsPath_70 (by decide) (fun c7 => ?_) (fun c7 => ?_)
              · have hf := (if_pos c7).mp hf
                exact hJ111 S5 l0 l2 l3 l4 l5 l6 l7 hf H locs ls hH hl
              · have hf := (if_neg c7).mp hf
                refine lv_iload hx hb dX1_findsPath_73 (lv_at hl 3 rfl) ?_
                refine lv_aload_n hx hb dX1_findsPath_75 rfl (lv_at hl 0 rfl) ?_
                refine q_getR (T := TX1) (N := 3) X hH hf iw_X1 rfl (by decide) tw_163 (fun _ h => h) dX1_findsPath_76 (fun v8 hf => ?_)
                refine q_alen X hH hf dX1_findsPath_79 (fun v9 hf => ?_)
                refine lv_icmp_ge (tgt := 111) hx hb dX1_findsPath_80 (by decide) (fun c10 => ?_) (fun c10 => ?_)
                · have hf := (if_pos c10).mp hf
                  exact hJ111 S5 l0 l2 l3 l4 l5 l6 l7 hf H locs ls hH hl
                · have hf := (if_neg c10).mp hf
                  refine lv_iload_n hx hb dX1_findsPath_83 rfl (lv_at hl 2 rfl) ?_
                  refine lv_iconst (v := 1) hx hb dX1_findsPath_84 (by decide) ?_
                  refine lv_iload hx hb dX1_findsPath_85 (lv_at hl 6 rfl) ?_
                  refine lv_ishl hx hb dX1_findsPath_87 ?_
                  refine lv_ior hx hb dX1_findsPath_88 ?_
                  refine lv_istore_n (lv' := [(3, .int (l3 ||| ((1 : Int32) <<< (l7 &&& 31)))), (0, .ref l0), (2, .int l2), (4, .int l4), (5, .int l5), (6, .int l6), (7, .int l7)]) hx hb dX1_findsPath_89 rfl hl (by decide) rfl (fun ls hl => ?_)
                  refine lv_aload_n hx hb dX1_findsPath_90 rfl (lv_at hl 1 rfl) ?_
                  refine q_getR (T := TX1) (N := 3) X hH hf iw_X1 rfl (by decide) tw_162 (fun _ h => h) dX1_findsPath_91 (fun v11 hf => ?_)
                  refine lv_iload hx hb dX1_findsPath_94 (lv_at hl 6 rfl) ?_
                  refine lv_iload hx hb dX1_findsPath_96 (lv_at hl 5 rfl) ?_
                  refine q_iast X hH hf dX1_findsPath_98 (fun S12 hf H locs hH => ?_)
                  refine lv_aload_n hx hb dX1_findsPath_99 rfl (lv_at hl 1 rfl) ?_
                  refine q_getR (T := TX1) (N := 3) X hH hf iw_X1 rfl (by decide) tw_163 (fun _ h => h) dX1_findsPath_100 (fun v13 hf => ?_)
                  refine lv_iload hx hb dX1_findsPath_103 (lv_at hl 3 rfl) ?_
                  refine lv_iload hx hb dX1_findsPath_105 (lv_at hl 6 rfl) ?_
                  refine q_iast X hH hf dX1_findsPath_107 (fun S14 hf H locs hH => ?_)
                  refine lv_iinc (v := l4 + 1) (lv' := [(4, .int (l4 + 1)), (3, .int (l3 ||| ((1 : Int32) <<< (l7 &&& 31)))), (0, .ref l0), (2, .int l2), (5, .int l5), (6, .int l6), (7, .int l7)]) hx hb dX1_findsPath_108 hl (k := 3) rfl rfl (by decide) rfl (fun ls hl => ?_)
                  exact hJ111 S14 l0 l2 (l3 ||| ((1 : Int32) <<< (l7 &&& 31))) (l4 + 1) l5 l6 l7 hf H locs ls hH (lv_sub hl [2, 3, 1, 0, 4, 5, 6] rfl)
      refine lv_iload hx hb dX1_findsPath_17 (lv_at hl 4 rfl) ?_
      refine lv_iload hx hb dX1_findsPath_19 (lv_at hl 3 rfl) ?_
      refine lv_icmp_ge (tgt := 123) hx hb dX1_findsPath_21 (by decide) (fun c1 => ?_) (fun c1 => ?_)
      · have hf := (if_pos c1).mp hf
        exact hJ123 S l2 l3 hf H locs ls hH (lv_sub hl [1, 2] rfl)
      · have hf := (if_neg c1).mp hf
        refine lv_iload hx hb dX1_findsPath_24 (lv_at hl 4 rfl) ?_
        refine lv_aload_n hx hb dX1_findsPath_26 rfl (lv_at hl 0 rfl) ?_
        refine q_getR (T := TX1) (N := 3) X hH hf iw_X1 rfl (by decide) tw_163 (fun _ h => h) dX1_findsPath_27 (fun v2 hf => ?_)
        refine q_alen X hH hf dX1_findsPath_30 (fun v3 hf => ?_)
        refine lv_icmp_ge (tgt := 123) hx hb dX1_findsPath_31 (by decide) (fun c4 => ?_) (fun c4 => ?_)
        · have hf := (if_pos c4).mp hf
          exact hJ123 S l2 l3 hf H locs ls hH (lv_sub hl [1, 2] rfl)
        · have hf := (if_neg c4).mp hf
          refine lv_aload_n hx hb dX1_findsPath_34 rfl (lv_at hl 0 rfl) ?_
          refine q_getR (T := TX1) (N := 3) X hH hf iw_X1 rfl (by decide) tw_163 (fun _ h => h) dX1_findsPath_35 (fun v5 hf => ?_)
          refine lv_iload hx hb dX1_findsPath_38 (lv_at hl 4 rfl) ?_
          refine q_iald X hH hf dX1_findsPath_40 (fun v6 hf => ?_)
          refine lv_istore (lv' := [(6, .int v6), (0, .ref l0), (2, .int l2), (3, .int l3), (4, .int l4), (5, .int l5)]) hx hb dX1_findsPath_41 hl (by decide) rfl (fun ls hl => ?_)
          refine lv_iconst (v := 0) hx hb dX1_findsPath_43 (by decide) ?_
          refine lv_istore (lv' := [(7, .int 0), (6, .int v6), (0, .ref l0), (2, .int l2), (3, .int l3), (4, .int l4), (5, .int l5)]) hx hb dX1_findsPath_44 hl (by decide) rfl (fun ls hl => ?_)
          exact hL46 4096 S l0 l2 l3 l4 l5 v6 0 hf H locs ls hH (lv_sub hl [2, 3, 4, 5, 6, 1, 0] rfl)
  refine lv_iconst (v := 1) hx hb dX1_findsPath_0 (by decide) ?_
  refine lv_iload_n hx hb dX1_findsPath_1 rfl (lv_at hl 1 rfl) ?_
  refine lv_ishl hx hb dX1_findsPath_2 ?_
  refine lv_istore_n (lv' := [(3, .int ((1 : Int32) <<< (a1 &&& 31))), (0, .ref a0), (1, .int a1), (2, .int a2)]) hx hb dX1_findsPath_3 rfl hl (by decide) rfl (fun ls hl => ?_)
  refine lv_iconst (v := 1) hx hb dX1_findsPath_4 (by decide) ?_
  refine lv_istore (lv' := [(4, .int 1), (3, .int ((1 : Int32) <<< (a1 &&& 31))), (0, .ref a0), (1, .int a1), (2, .int a2)]) hx hb dX1_findsPath_5 hl (by decide) rfl (fun ls hl => ?_)
  refine lv_aload_n hx hb dX1_findsPath_7 rfl (lv_at hl 2 rfl) ?_
  refine q_getR (T := TX1) (N := 3) X hH hf iw_X1 rfl (by decide) tw_163 (fun _ h => h) dX1_findsPath_8 (fun v1 hf => ?_)
  refine lv_iconst (v := 0) hx hb dX1_findsPath_11 (by decide) ?_
  refine lv_iload_n hx hb dX1_findsPath_12 rfl (lv_at hl 3 rfl) ?_
  refine q_iast X hH hf dX1_findsPath_13 (fun S2 hf H locs hH => ?_)
  refine lv_iconst (v := 0) hx hb dX1_findsPath_14 (by decide) ?_
  refine lv_istore (lv' := [(5, .int 0), (4, .int 1), (3, .int ((1 : Int32) <<< (a1 &&& 31))), (0, .ref a0), (1, .int a1), (2, .int a2)]) hx hb dX1_findsPath_15 hl (by decide) rfl (fun ls hl => ?_)
  exact hL17 4096 S2 a0 a2 ((1 : Int32) <<< (a1 &&& 31)) 1 0 hf H locs ls hH (lv_sub hl [3, 5, 2, 1, 0] rfl)
-- X1_narrowest
def f_X1_narrowest_L9 (post : Int32 → PS → Prop) : Nat → PS → Nat → Int32 → Int32 → Int32 → Int32 → Prop
  | 0, _, _, _, _, _, _ => False
  | n + 1, S, l0, l1, l3, l4, l5 =>
  if 9 ≤ l5 then
    post l3 S
  else
    if l4 = l1 then
      post l3 S
    else
      isO S l0 5 (
      f_X1_stepBack S l0 l4 fun v4 S3 => (
      isO S3 l0 5 (
      f_X1_roomOn S3 l0 v4 l4 fun v6 S5 => (
      (f_X1_narrowest_L9 post n) S5 l0 l1 (if v6 < l3 then v6 else l3) v4 (l5 + 1)))))
def f_X1_narrowest (S : PS) (a0 : Nat) (a1 : Int32) (a2 : Int32) (post : Int32 → PS → Prop) : Prop :=
  f_X1_narrowest_L9 post 4096 S a0 a1 2147483647 a2 0
abbrev rm_X1_narrowest : Room := { frames := 2, cells := 0, slots := 0, locals := 43 }
set_option maxHeartbeats 4000000 in
set_option maxRecDepth 100000 in
theorem c_X1_narrowest (l : Launch) (D : va_G) (cy : Nat → ClassId) (G : p_GT) (hG : p_ok G) (S : PS) (a0 : Nat) (a1 : Int32) (a2 : Int32) (post : Int32 → PS → Prop) (sz : Nat) (hf : f_X1_narrowest S a0 a1 a2 post) : p_Mi l D cy G S sz yX1_narrowest (Cond.code yX1_narrowest cX1_narrowest 7 (some .int) :: wG) rm_X1_narrowest [.ref a0, .int a1, .int a2] 0 0 post := by
  refine q_start hG (Qc := fun A => va_Qi post (p_Post D cy A) A) mf_X1_narrowest (Nat.le_of_ble_eq_true rfl) (own := RX1) rfl ?_
  intro p e s m below meth c A X hr hlk hnm ls hl hH
  have hx := X.1.1
  have hb := X.1.2.1
  replace hl : lv_has ls 7 [(0, .ref a0), (1, .int a1), (2, .int a2)] := hl
  obtain ⟨H, hHe⟩ : ∃ H, H = s.heap := ⟨_, rfl⟩
  obtain ⟨locs, hlo⟩ : ∃ locs : List Loc, locs = [] := ⟨_, rfl⟩
  rw [← hHe, ← hlo] at hH
  show W p l e rm_X1_narrowest s m [.ref a0, .int a1, .int a2].toArray below meth c s.heap [] 0 0 _ _
  rw [← hHe, ← hlo]
  have hL9 : ∀ (n9 : Nat) (S : PS) (l0 : Nat) (l1 : Int32) (l3 : Int32) (l4 : Int32) (l5 : Int32), f_X1_narrowest_L9 post n9 S l0 l1 l3 l4 l5 → ∀ (H : Heap) (locs : List Loc) (ls : Array Slot), p_H D cy S A s H locs → lv_has ls 7 [(0, .ref l0), (1, .int l1), (3, .int l3), (4, .int l4), (5, .int l5)] → W p l e rm_X1_narrowest s m [.ref a0, .int a1, .int a2].toArray below meth c H locs 0 0 (MQ below (va_Qi post (p_Post D cy A) A) [.ref a0, .int a1, .int a2].toArray s 0 0 A) (F0 m 9 ls []) := by
    intro n9
    induction n9 with
    | zero => intro S l0 l1 l3 l4 l5 hf; exact hf.elim
    | succ n9 ih9 =>
      intro S l0 l1 l3 l4 l5 hf H locs ls hH hl
      refine lv_iload hx hb dX1_narrowest_9 (lv_at hl 4 rfl) ?_
      refine lv_bipush (v := 9) hx hb dX1_narrowest_11 (by decide) ?_
      refine lv_icmp_ge (tgt := 53) hx hb dX1_narrowest_13 (by decide) (fun c1 => ?_) (fun c1 => ?_)
      · have hf := (if_pos c1).mp hf
        refine lv_iload_n hx hb dX1_narrowest_53 rfl (lv_at hl 2 rfl) ?_
        exact q_retI X hH hr hlk hf (Nat.zero_le _) (Nat.zero_le _) dX1_narrowest_54
      · have hf := (if_neg c1).mp hf
        refine lv_iload hx hb dX1_narrowest_16 (lv_at hl 3 rfl) ?_
        refine lv_iload_n hx hb dX1_narrowest_18 rfl (lv_at hl 1 rfl) ?_
        refine lv_icmp_eq (tgt := 53) hx hb dX1_narrowest_19 (by decide) (fun c2 => ?_) (fun c2 => ?_)
        · have hf := (if_pos c2).mp hf
          refine lv_iload_n hx hb dX1_narrowest_53 rfl (lv_at hl 2 rfl) ?_
          exact q_retI X hH hr hlk hf (Nat.zero_le _) (Nat.zero_le _) dX1_narrowest_54
        · have hf := (if_neg c2).mp hf
          refine lv_aload_n hx hb dX1_narrowest_22 rfl (lv_at hl 0 rfl) ?_
          refine lv_iload hx hb dX1_narrowest_23 (lv_at hl 3 rfl) ?_
          obtain ⟨hb1, hb2, hf⟩ := hf
          refine q_backI0 X hH (q_runV [.int l4] [] X hH hl (c_X1_stepBack l D cy G X.2.2.2.1 S l0 l4 _ _ hf) mf_X1_stepBack mv_X1_stepBack tw_581 ⟨Nat.le_of_ble_eq_true rfl, Nat.le_of_ble_eq_true rfl⟩ hb1 hb2 (T := TX1) (N := 3) rfl rfl (Nat.le_of_ble_eq_true rfl) dX1_narrowest_25 ⟨Nat.le_of_ble_eq_true rfl, Nat.le_of_ble_eq_true rfl⟩) (fun v4 S3 hf H locs hH => ?_)
          refine lv_istore (lv' := [(6, .int v4), (0, .ref l0), (1, .int l1), (3, .int l3), (4, .int l4), (5, .int l5)]) hx hb dX1_narrowest_28 hl (by decide) rfl (fun ls hl => ?_)
          refine lv_iload_n hx hb dX1_narrowest_30 rfl (lv_at hl 3 rfl) ?_
          refine lv_aload_n hx hb dX1_narrowest_31 rfl (lv_at hl 1 rfl) ?_
          refine lv_iload hx hb dX1_narrowest_32 (lv_at hl 0 rfl) ?_
          refine lv_iload hx hb dX1_narrowest_34 (lv_at hl 4 rfl) ?_
          obtain ⟨hb1, hb2, hf⟩ := hf
          refine q_backI0 X hH (q_runV [.int v4, .int l4] [.int l3] X hH hl (c_X1_roomOn l D cy G X.2.2.2.1 S3 l0 v4 l4 _ _ hf) mf_X1_roomOn mv_X1_roomOn tw_568 ⟨Nat.le_of_ble_eq_true rfl, Nat.le_of_ble_eq_true rfl⟩ hb1 hb2 (T := TX1) (N := 3) rfl rfl (Nat.le_of_ble_eq_true rfl) dX1_narrowest_36 ⟨Nat.le_of_ble_eq_true rfl, Nat.le_of_ble_eq_true rfl⟩) (fun v6 S5 hf H locs hH => ?_)
          refine q_mmin X hl tw_585 tw_496 tw_47 tw_497 ⟨Nat.le_of_ble_eq_true rfl, Nat.le_of_ble_eq_true rfl⟩ (Nat.le_of_ble_eq_true rfl) (Nat.zero_le _) (Nat.zero_le _) dX1_narrowest_39 ?_
          refine lv_istore_n (lv' := [(3, .int ((if v6 < l3 then v6 else l3))), (6, .int v4), (0, .ref l0), (1, .int l1), (4, .int l4), (5, .int l5)]) hx hb dX1_narrowest_42 rfl hl (by decide) rfl (fun ls hl => ?_)
          refine lv_iload hx hb dX1_narrowest_43 (lv_at hl 1 rfl) ?_
          refine lv_istore (lv' := [(4, .int v4), (3, .int ((if v6 < l3 then v6 else l3))), (6, .int v4), (0, .ref l0), (1, .int l1), (5, .int l5)]) hx hb dX1_narrowest_45 hl (by decide) rfl (fun ls hl => ?_)
          refine lv_iinc (v := l5 + 1) (lv' := [(5, .int (l5 + 1)), (4, .int v4), (3, .int ((if v6 < l3 then v6 else l3))), (6, .int v4), (0, .ref l0), (1, .int l1)]) hx hb dX1_narrowest_47 hl (k := 5) rfl rfl (by decide) rfl (fun ls hl => ?_)
          refine lv_goto (tgt := 9) hx hb dX1_narrowest_50 (by decide) ?_
          exact ih9 S5 l0 l1 (if v6 < l3 then v6 else l3) v4 (l5 + 1) hf H locs ls hH (lv_sub hl [4, 5, 2, 1, 0] rfl)
  refine lv_ldc (v := 2147483647) hx hb X.1.2.2.2.1 (X.1.2.2.2.2 _ tw_580) dX1_narrowest_0 ?_
  refine lv_istore_n (lv' := [(3, .int 2147483647), (0, .ref a0), (1, .int a1), (2, .int a2)]) hx hb dX1_narrowest_2 rfl hl (by decide) rfl (fun ls hl => ?_)
  refine lv_iload_n hx hb dX1_narrowest_3 rfl (lv_at hl 3 rfl) ?_
  refine lv_istore (lv' := [(4, .int a2), (3, .int 2147483647), (0, .ref a0), (1, .int a1), (2, .int a2)]) hx hb dX1_narrowest_4 hl (by decide) rfl (fun ls hl => ?_)
  refine lv_iconst (v := 0) hx hb dX1_narrowest_6 (by decide) ?_
  refine lv_istore (lv' := [(5, .int 0), (4, .int a2), (3, .int 2147483647), (0, .ref a0), (1, .int a1), (2, .int a2)]) hx hb dX1_narrowest_7 hl (by decide) rfl (fun ls hl => ?_)
  exact hL9 4096 S a0 a1 2147483647 a2 0 hf H locs ls hH (lv_sub hl [3, 4, 2, 1, 0] rfl)
-- X1_push
def f_X1_push_L6 (post : PS → Prop) : Nat → PS → Nat → Int32 → Int32 → Int32 → Int32 → Prop
  | 0, _, _, _, _, _, _ => False
  | n + 1, S, l0, l1, l3, l4, l5 =>
  if 9 ≤ l5 then
    post S
  else
    if l4 = l1 then
      post S
    else
      isO S l0 5 (
      f_X1_stepBack S l0 l4 fun v4 S3 => (
      isO S3 l0 5 (
      f_X1_widen S3 l0 v4 l4 (-l3) fun S5 => (
      isO S5 l0 5 (
      f_X1_widen S5 l0 l4 v4 l3 fun S7 => (
      (f_X1_push_L6 post n) S7 l0 l1 l3 v4 (l5 + 1)))))))
def f_X1_push (S : PS) (a0 : Nat) (a1 : Int32) (a2 : Int32) (a3 : Int32) (post : PS → Prop) : Prop :=
  f_X1_push_L6 post 4096 S a0 a1 a3 a2 0
abbrev rm_X1_push : Room := { frames := 2, cells := 0, slots := 0, locals := 44 }
set_option maxHeartbeats 4000000 in
set_option maxRecDepth 100000 in
theorem c_X1_push (l : Launch) (D : va_G) (cy : Nat → ClassId) (G : p_GT) (hG : p_ok G) (S : PS) (a0 : Nat) (a1 : Int32) (a2 : Int32) (a3 : Int32) (post : PS → Prop) (sz : Nat) (hf : f_X1_push S a0 a1 a2 a3 post) : p_Mv l D cy G S sz yX1_push (Cond.code yX1_push cX1_push 7 none :: wG) rm_X1_push [.ref a0, .int a1, .int a2, .int a3] 0 0 post := by
  refine q_start hG (Qc := fun A => va_Qv post (p_Post D cy A) A) mf_X1_push (Nat.le_of_ble_eq_true rfl) (own := RX1) rfl ?_
  intro p e s m below meth c A X hr hlk hnm ls hl hH
  have hx := X.1.1
  have hb := X.1.2.1
  replace hl : lv_has ls 7 [(0, .ref a0), (1, .int a1), (2, .int a2), (3, .int a3)] := hl
  obtain ⟨H, hHe⟩ : ∃ H, H = s.heap := ⟨_, rfl⟩
  obtain ⟨locs, hlo⟩ : ∃ locs : List Loc, locs = [] := ⟨_, rfl⟩
  rw [← hHe, ← hlo] at hH
  show W p l e rm_X1_push s m [.ref a0, .int a1, .int a2, .int a3].toArray below meth c s.heap [] 0 0 _ _
  rw [← hHe, ← hlo]
  have hL6 : ∀ (n6 : Nat) (S : PS) (l0 : Nat) (l1 : Int32) (l3 : Int32) (l4 : Int32) (l5 : Int32), f_X1_push_L6 post n6 S l0 l1 l3 l4 l5 → ∀ (H : Heap) (locs : List Loc) (ls : Array Slot), p_H D cy S A s H locs → lv_has ls 7 [(0, .ref l0), (1, .int l1), (3, .int l3), (4, .int l4), (5, .int l5)] → W p l e rm_X1_push s m [.ref a0, .int a1, .int a2, .int a3].toArray below meth c H locs 0 0 (MQ below (va_Qv post (p_Post D cy A) A) [.ref a0, .int a1, .int a2, .int a3].toArray s 0 0 A) (F0 m 6 ls []) := by
    intro n6
    induction n6 with
    | zero => intro S l0 l1 l3 l4 l5 hf; exact hf.elim
    | succ n6 ih6 =>
      intro S l0 l1 l3 l4 l5 hf H locs ls hH hl
      refine lv_iload hx hb dX1_push_6 (lv_at hl 4 rfl) ?_
      refine lv_bipush (v := 9) hx hb dX1_push_8 (by decide) ?_
      refine lv_icmp_ge (tgt := 56) hx hb dX1_push_10 (by decide) (fun c1 => ?_) (fun c1 => ?_)
      · have hf := (if_pos c1).mp hf
        exact q_retV X hH hr hlk hf (Nat.zero_le _) (Nat.zero_le _) dX1_push_56
      · have hf := (if_neg c1).mp hf
        refine lv_iload hx hb dX1_push_13 (lv_at hl 3 rfl) ?_
        refine lv_iload_n hx hb dX1_push_15 rfl (lv_at hl 1 rfl) ?_
        refine lv_icmp_eq (tgt := 56) hx hb dX1_push_16 (by decide) (fun c2 => ?_) (fun c2 => ?_)
        · have hf := (if_pos c2).mp hf
          exact q_retV X hH hr hlk hf (Nat.zero_le _) (Nat.zero_le _) dX1_push_56
        · have hf := (if_neg c2).mp hf
          refine lv_aload_n hx hb dX1_push_19 rfl (lv_at hl 0 rfl) ?_
          refine lv_iload hx hb dX1_push_20 (lv_at hl 3 rfl) ?_
          obtain ⟨hb1, hb2, hf⟩ := hf
          refine q_backI0 X hH (q_runV [.int l4] [] X hH hl (c_X1_stepBack l D cy G X.2.2.2.1 S l0 l4 _ _ hf) mf_X1_stepBack mv_X1_stepBack tw_581 ⟨Nat.le_of_ble_eq_true rfl, Nat.le_of_ble_eq_true rfl⟩ hb1 hb2 (T := TX1) (N := 3) rfl rfl (Nat.le_of_ble_eq_true rfl) dX1_push_22 ⟨Nat.le_of_ble_eq_true rfl, Nat.le_of_ble_eq_true rfl⟩) (fun v4 S3 hf H locs hH => ?_)
          refine lv_istore (lv' := [(6, .int v4), (0, .ref l0), (1, .int l1), (3, .int l3), (4, .int l4), (5, .int l5)]) hx hb dX1_push_25 hl (by decide) rfl (fun ls hl => ?_)
          refine lv_aload_n hx hb dX1_push_27 rfl (lv_at hl 1 rfl) ?_
          refine lv_iload hx hb dX1_push_28 (lv_at hl 0 rfl) ?_
          refine lv_iload hx hb dX1_push_30 (lv_at hl 4 rfl) ?_
          refine lv_iload_n hx hb dX1_push_32 rfl (lv_at hl 3 rfl) ?_
          refine lv_ineg hx hb dX1_push_33 ?_
          obtain ⟨hb1, hb2, hf⟩ := hf
          refine q_backV0 X hH (q_runV [.int v4, .int l4, .int (-l3)] [] X hH hl (c_X1_widen l D cy G X.2.2.2.1 S3 l0 v4 l4 (-l3) _ _ hf) mf_X1_widen mv_X1_widen tw_590 ⟨Nat.le_of_ble_eq_true rfl, Nat.le_of_ble_eq_true rfl⟩ hb1 hb2 (T := TX1) (N := 3) rfl rfl (Nat.le_of_ble_eq_true rfl) dX1_push_34 ⟨Nat.le_of_ble_eq_true rfl, Nat.le_of_ble_eq_true rfl⟩) (fun S5 hf H locs hH => ?_)
          refine lv_aload_n hx hb dX1_push_37 rfl (lv_at hl 1 rfl) ?_
          refine lv_iload hx hb dX1_push_38 (lv_at hl 4 rfl) ?_
          refine lv_iload hx hb dX1_push_40 (lv_at hl 0 rfl) ?_
          refine lv_iload_n hx hb dX1_push_42 rfl (lv_at hl 3 rfl) ?_
          obtain ⟨hb1, hb2, hf⟩ := hf
          refine q_backV0 X hH (q_runV [.int l4, .int v4, .int l3] [] X hH hl (c_X1_widen l D cy G X.2.2.2.1 S5 l0 l4 v4 l3 _ _ hf) mf_X1_widen mv_X1_widen tw_590 ⟨Nat.le_of_ble_eq_true rfl, Nat.le_of_ble_eq_true rfl⟩ hb1 hb2 (T := TX1) (N := 3) rfl rfl (Nat.le_of_ble_eq_true rfl) dX1_push_43 ⟨Nat.le_of_ble_eq_true rfl, Nat.le_of_ble_eq_true rfl⟩) (fun S7 hf H locs hH => ?_)
          refine lv_iload hx hb dX1_push_46 (lv_at hl 0 rfl) ?_
          refine lv_istore (lv' := [(4, .int v4), (6, .int v4), (0, .ref l0), (1, .int l1), (3, .int l3), (5, .int l5)]) hx hb dX1_push_48 hl (by decide) rfl (fun ls hl => ?_)
          refine lv_iinc (v := l5 + 1) (lv' := [(5, .int (l5 + 1)), (4, .int v4), (6, .int v4), (0, .ref l0), (1, .int l1), (3, .int l3)]) hx hb dX1_push_50 hl (k := 5) rfl rfl (by decide) rfl (fun ls hl => ?_)
          refine lv_goto (tgt := 6) hx hb dX1_push_53 (by decide) ?_
          exact ih6 S7 l0 l1 l3 v4 (l5 + 1) hf H locs ls hH (lv_sub hl [3, 4, 5, 1, 0] rfl)
  refine lv_iload_n hx hb dX1_push_0 rfl (lv_at hl 2 rfl) ?_
  refine lv_istore (lv' := [(4, .int a2), (0, .ref a0), (1, .int a1), (2, .int a2), (3, .int a3)]) hx hb dX1_push_1 hl (by decide) rfl (fun ls hl => ?_)
  refine lv_iconst (v := 0) hx hb dX1_push_3 (by decide) ?_
  refine lv_istore (lv' := [(5, .int 0), (4, .int a2), (0, .ref a0), (1, .int a1), (2, .int a2), (3, .int a3)]) hx hb dX1_push_4 hl (by decide) rfl (fun ls hl => ?_)
  exact hL6 4096 S a0 a1 a3 a2 0 hf H locs ls hH (lv_sub hl [2, 3, 5, 1, 0] rfl)
-- X3_joinAll
def f_X3_joinAll_J112 (post : PS → Prop) (g40 : PS → Nat → Int32 → Int32 → Int32 → Prop) (S : PS) (l0 : Nat) (l1 : Int32) (l2 : Int32) (l3 : Int32) : Prop :=
  g40 S l0 l1 l2 (l3 + 1)
def f_X3_joinAll_L76 (post : PS → Prop) (g40 : PS → Nat → Int32 → Int32 → Int32 → Prop) : Nat → PS → Nat → Int32 → Int32 → Int32 → Int32 → Int32 → Prop
  | 0, _, _, _, _, _, _, _ => False
  | n + 1, S, l0, l1, l2, l3, l4, l5 =>
  if 9 ≤ l5 then
    f_X3_joinAll_J112 post g40 S l0 l1 l2 l3
  else
    gR S l0 7 4 fun v2 => (
    aI S v2 0 l5 fun v3 => (
    gR S l0 7 2 fun v4 => (
    aI S v4 0 ((l5 * 9) + l4) fun v5 => (
    sI S v2 0 l5 (v3 + v5) fun S6 => (
    (f_X3_joinAll_L76 post g40 n) S6 l0 l1 l2 l3 l4 (l5 + 1))))))
def f_X3_joinAll_L40 (post : PS → Prop) : Nat → PS → Nat → Int32 → Int32 → Int32 → Prop
  | 0, _, _, _, _, _ => False
  | n + 1, S, l0, l1, l2, l3 =>
  isO S l0 7 (
  f_X3_groupsIn S l0 l1 fun v2 S1 => (
  if v2 ≤ l3 then
    post S1
  else
    isO S1 l0 7 (
    f_X3_strongestOf S1 l0 l2 fun v5 S4 => (
    isO S4 l0 7 (
    f_X3_put S4 l0 l1 l3 v5 fun S6 => (
    f_X3_joinAll_L76 post (f_X3_joinAll_L40 post n) 4096 S6 l0 l1 (l2 &&& (((1 : Int32) <<< (v5 &&& 31)) ^^^ (-1))) l3 v5 0))))))
def f_X3_joinAll_J38 (post : PS → Prop) (S : PS) (l0 : Nat) (l1 : Int32) (l2 : Int32) : Prop :=
  f_X3_joinAll_L40 post 4096 S l0 l1 l2 0
def f_X3_joinAll_J32 (post : PS → Prop) (g4 : PS → Nat → Int32 → Int32 → Int32 → Prop) (S : PS) (l0 : Nat) (l1 : Int32) (l2 : Int32) (l3 : Int32) : Prop :=
  g4 S l0 l1 l2 (l3 + 1)
def f_X3_joinAll_L4 (post : PS → Prop) : Nat → PS → Nat → Int32 → Int32 → Int32 → Prop
  | 0, _, _, _, _, _ => False
  | n + 1, S, l0, l1, l2, l3 =>
  if 9 ≤ l3 then
    f_X3_joinAll_J38 post S l0 l1 l2
  else
    gR S l0 7 4 fun v2 => (
    sI S v2 0 l3 0 fun S3 => (
    gR S3 l0 7 3 fun v4 => (
    aI S3 v4 0 l3 fun v5 => (
    if v5 = 0 then
      f_X3_joinAll_J32 post (f_X3_joinAll_L4 post n) S3 l0 l1 l2 l3
    else
      f_X3_joinAll_J32 post (f_X3_joinAll_L4 post n) S3 l0 l1 (l2 ||| ((1 : Int32) <<< (l3 &&& 31))) l3))))
def f_X3_joinAll (S : PS) (a0 : Nat) (a1 : Int32) (post : PS → Prop) : Prop :=
  f_X3_joinAll_L4 post 4096 S a0 a1 0 0
abbrev rm_X3_joinAll : Room := { frames := 2, cells := 0, slots := 0, locals := 45 }
set_option maxHeartbeats 4000000 in
set_option maxRecDepth 100000 in
theorem c_X3_joinAll (l : Launch) (D : va_G) (cy : Nat → ClassId) (G : p_GT) (hG : p_ok G) (S : PS) (a0 : Nat) (a1 : Int32) (post : PS → Prop) (sz : Nat) (hf : f_X3_joinAll S a0 a1 post) : p_Mv l D cy G S sz yX3_joinAll (Cond.code yX3_joinAll cX3_joinAll 6 none :: wG) rm_X3_joinAll [.ref a0, .int a1] 0 0 post := by
  refine q_start hG (Qc := fun A => va_Qv post (p_Post D cy A) A) mf_X3_joinAll (Nat.le_of_ble_eq_true rfl) (own := RX3) rfl ?_
  intro p e s m below meth c A X hr hlk hnm ls hl hH
  have hx := X.1.1
  have hb := X.1.2.1
  replace hl : lv_has ls 6 [(0, .ref a0), (1, .int a1)] := hl
  obtain ⟨H, hHe⟩ : ∃ H, H = s.heap := ⟨_, rfl⟩
  obtain ⟨locs, hlo⟩ : ∃ locs : List Loc, locs = [] := ⟨_, rfl⟩
  rw [← hHe, ← hlo] at hH
  show W p l e rm_X3_joinAll s m [.ref a0, .int a1].toArray below meth c s.heap [] 0 0 _ _
  rw [← hHe, ← hlo]
  have hL4 : ∀ (n4 : Nat) (S : PS) (l0 : Nat) (l1 : Int32) (l2 : Int32) (l3 : Int32), f_X3_joinAll_L4 post n4 S l0 l1 l2 l3 → ∀ (H : Heap) (locs : List Loc) (ls : Array Slot), p_H D cy S A s H locs → lv_has ls 6 [(0, .ref l0), (1, .int l1), (2, .int l2), (3, .int l3)] → W p l e rm_X3_joinAll s m [.ref a0, .int a1].toArray below meth c H locs 0 0 (MQ below (va_Qv post (p_Post D cy A) A) [.ref a0, .int a1].toArray s 0 0 A) (F0 m 4 ls []) := by
    intro n4
    induction n4 with
    | zero => intro S l0 l1 l2 l3 hf; exact hf.elim
    | succ n4 ih4 =>
      intro S l0 l1 l2 l3 hf H locs ls hH hl
      have hJ38 : ∀ (S : PS) (l0 : Nat) (l1 : Int32) (l2 : Int32), f_X3_joinAll_J38 post S l0 l1 l2 → ∀ (H : Heap) (locs : List Loc) (ls : Array Slot), p_H D cy S A s H locs → lv_has ls 6 [(0, .ref l0), (1, .int l1), (2, .int l2)] → W p l e rm_X3_joinAll s m [.ref a0, .int a1].toArray below meth c H locs 0 0 (MQ below (va_Qv post (p_Post D cy A) A) [.ref a0, .int a1].toArray s 0 0 A) (F0 m 38 ls []) := by
        intro S l0 l1 l2 hf H locs ls hH hl
        have hL40 : ∀ (n40 : Nat) (S : PS) (l0 : Nat) (l1 : Int32) (l2 : Int32) (l3 : Int32), f_X3_joinAll_L40 post n40 S l0 l1 l2 l3 → ∀ (H : Heap) (locs : List Loc) (ls : Array Slot), p_H D cy S A s H locs → lv_has ls 6 [(0, .ref l0), (1, .int l1), (2, .int l2), (3, .int l3)] → W p l e rm_X3_joinAll s m [.ref a0, .int a1].toArray below meth c H locs 0 0 (MQ below (va_Qv post (p_Post D cy A) A) [.ref a0, .int a1].toArray s 0 0 A) (F0 m 40 ls []) := by
          intro n40
          induction n40 with
          | zero => intro S l0 l1 l2 l3 hf; exact hf.elim
          | succ n40 ih40 =>
            intro S l0 l1 l2 l3 hf H locs ls hH hl
            have hL76 : ∀ (n76 : Nat) (S : PS) (l0 : Nat) (l1 : Int32) (l2 : Int32) (l3 : Int32) (l4 : Int32) (l5 : Int32), f_X3_joinAll_L76 post (f_X3_joinAll_L40 post n40) n76 S l0 l1 l2 l3 l4 l5 → ∀ (H : Heap) (locs : List Loc) (ls : Array Slot), p_H D cy S A s H locs → lv_has ls 6 [(0, .ref l0), (1, .int l1), (2, .int l2), (3, .int l3), (4, .int l4), (5, .int l5)] → W p l e rm_X3_joinAll s m [.ref a0, .int a1].toArray below meth c H locs 0 0 (MQ below (va_Qv post (p_Post D cy A) A) [.ref a0, .int a1].toArray s 0 0 A) (F0 m 76 ls []) := by
              intro n76
              induction n76 with
              | zero => intro S l0 l1 l2 l3 l4 l5 hf; exact hf.elim
              | succ n76 ih76 =>
                intro S l0 l1 l2 l3 l4 l5 hf H locs ls hH hl
                have hJ112 : ∀ (S : PS) (l0 : Nat) (l1 : Int32) (l2 : Int32) (l3 : Int32), f_X3_joinAll_J112 post (f_X3_joinAll_L40 post n40) S l0 l1 l2 l3 → ∀ (H : Heap) (locs : List Loc) (ls : Array Slot), p_H D cy S A s H locs → lv_has ls 6 [(0, .ref l0), (1, .int l1), (2, .int l2), (3, .int l3)] → W p l e rm_X3_joinAll s m [.ref a0, .int a1].toArray below meth c H locs 0 0 (MQ below (va_Qv post (p_Post D cy A) A) [.ref a0, .int a1].toArray s 0 0 A) (F0 m 112 ls []) := by
                  intro S l0 l1 l2 l3 hf H locs ls hH hl
                  refine lv_iinc (v := l3 + 1) (lv' := [(3, .int (l3 + 1)), (0, .ref l0), (1, .int l1), (2, .int l2)]) hx hb dX3_joinAll_112 hl (k := 3) rfl rfl (by decide) rfl (fun ls hl => ?_)
                  refine lv_goto (tgt := 40) hx hb dX3_joinAll_115 (by decide) ?_
                  exact ih40 S l0 l1 l2 (l3 + 1) hf H locs ls hH (lv_sub hl [1, 2, 3, 0] rfl)
                refine lv_iload hx hb dX3_joinAll_76 (lv_at hl 5 rfl) ?_
                refine lv_bipush (v := 9) hx hb dX3_joinAll_78 (by decide) ?_
                refine lv_icmp_ge (tgt := 112) hx hb dX3_joinAll_80 (by decide) (fun c1 => ?_) (fun c1 => ?_)
                · have hf := (if_pos c1).mp hf
                  exact hJ112 S l0 l1 l2 l3 hf H locs ls hH (lv_sub hl [0, 1, 2, 3] rfl)
                · have hf := (if_neg c1).mp hf
                  refine lv_aload_n hx hb dX3_joinAll_83 rfl (lv_at hl 0 rfl) ?_
                  refine q_getR (T := TX3) (N := 6) X hH hf iw_X3 rfl (by decide) tw_127 (fun _ h => h) dX3_joinAll_84 (fun v2 hf => ?_)
                  refine lv_iload hx hb dX3_joinAll_87 (lv_at hl 5 rfl) ?_
                  refine lv_dup2_11 hx hb dX3_joinAll_89 rfl rfl ?_
                  refine q_iald X hH hf dX3_joinAll_90 (fun v3 hf => ?_)
                  refine lv_aload_n hx hb dX3_joinAll_91 rfl (lv_at hl 0 rfl) ?_
                  refine q_getR (T := TX3) (N := 6) X hH hf iw_X3 rfl (by decide) tw_125 (fun _ h => h) dX3_joinAll_92 (fun v4 hf => ?_)
                  refine lv_iload hx hb dX3_joinAll_95 (lv_at hl 5 rfl) ?_
                  refine lv_bipush (v := 9) hx hb dX3_joinAll_97 (by decide) ?_
                  refine lv_imul hx hb dX3_joinAll_99 ?_
                  refine lv_iload hx hb dX3_joinAll_100 (lv_at hl 4 rfl) ?_
                  refine lv_iadd hx hb dX3_joinAll_102 ?_
                  refine q_iald X hH hf dX3_joinAll_103 (fun v5 hf => ?_)
                  refine lv_iadd hx hb dX3_joinAll_104 ?_
                  refine q_iast X hH hf dX3_joinAll_105 (fun S6 hf H locs hH => ?_)
                  refine lv_iinc (v := l5 + 1) (lv' := [(5, .int (l5 + 1)), (0, .ref l0), (1, .int l1), (2, .int l2), (3, .int l3), (4, .int l4)]) hx hb dX3_joinAll_106 hl (k := 5) rfl rfl (by decide) rfl (fun ls hl => ?_)
                  refine lv_goto (tgt := 76) hx hb dX3_joinAll_109 (by decide) ?_
                  exact ih76 S6 l0 l1 l2 l3 l4 (l5 + 1) hf H locs ls hH (lv_sub hl [1, 2, 3, 4, 5, 0] rfl)
            refine lv_iload_n hx hb dX3_joinAll_40 rfl (lv_at hl 3 rfl) ?_
            refine lv_aload_n hx hb dX3_joinAll_41 rfl (lv_at hl 0 rfl) ?_
            refine lv_iload_n hx hb dX3_joinAll_42 rfl (lv_at hl 1 rfl) ?_
            obtain ⟨hb1, hb2, hf⟩ := hf
            refine q_backI0 X hH (q_runV [.int l1] [.int l3] X hH hl (c_X3_groupsIn l D cy G X.2.2.2.1 S l0 l1 _ _ hf) mf_X3_groupsIn mv_X3_groupsIn tw_466 ⟨Nat.le_of_ble_eq_true rfl, Nat.le_of_ble_eq_true rfl⟩ hb1 hb2 (T := TX3) (N := 6) rfl rfl (Nat.le_of_ble_eq_true rfl) dX3_joinAll_43 ⟨Nat.le_of_ble_eq_true rfl, Nat.le_of_ble_eq_true rfl⟩) (fun v2 S1 hf H locs hH => ?_)
            refine lv_icmp_ge (tgt := 118) hx hb dX3_joinAll_46 (by decide) (fun c3 => ?_) (fun c3 => ?_)
            · have hf := (if_pos c3).mp hf
              exact q_retV X hH hr hlk hf (Nat.zero_le _) (Nat.zero_le _) dX3_joinAll_118
            · have hf := (if_neg c3).mp hf
              refine lv_aload_n hx hb dX3_joinAll_49 rfl (lv_at hl 0 rfl) ?_
              refine lv_iload_n hx hb dX3_joinAll_50 rfl (lv_at hl 2 rfl) ?_
              obtain ⟨hb1, hb2, hf⟩ := hf
              refine q_backI0 X hH (q_runV [.int l2] [] X hH hl (c_X3_strongestOf l D cy G X.2.2.2.1 S1 l0 l2 _ _ hf) mf_X3_strongestOf mv_X3_strongestOf tw_470 ⟨Nat.le_of_ble_eq_true rfl, Nat.le_of_ble_eq_true rfl⟩ hb1 hb2 (T := TX3) (N := 6) rfl rfl (Nat.le_of_ble_eq_true rfl) dX3_joinAll_51 ⟨Nat.le_of_ble_eq_true rfl, Nat.le_of_ble_eq_true rfl⟩) (fun v5 S4 hf H locs hH => ?_)
              refine lv_istore (lv' := [(4, .int v5), (0, .ref l0), (1, .int l1), (2, .int l2), (3, .int l3)]) hx hb dX3_joinAll_54 hl (by decide) rfl (fun ls hl => ?_)
              refine lv_iload_n hx hb dX3_joinAll_56 rfl (lv_at hl 3 rfl) ?_
              refine lv_iconst (v := 1) hx hb dX3_joinAll_57 (by decide) ?_
              refine lv_iload hx hb dX3_joinAll_58 (lv_at hl 0 rfl) ?_
              refine lv_ishl hx hb dX3_joinAll_60 ?_
              refine lv_iconst (v := (-1)) hx hb dX3_joinAll_61 (by decide) ?_
              refine lv_ixor hx hb dX3_joinAll_62 ?_
              refine lv_iand hx hb dX3_joinAll_63 ?_
              refine lv_istore_n (lv' := [(2, .int (l2 &&& (((1 : Int32) <<< (v5 &&& 31)) ^^^ (-1)))), (4, .int v5), (0, .ref l0), (1, .int l1), (3, .int l3)]) hx hb dX3_joinAll_64 rfl hl (by decide) rfl (fun ls hl => ?_)
              refine lv_aload_n hx hb dX3_joinAll_65 rfl (lv_at hl 2 rfl) ?_
              refine lv_iload_n hx hb dX3_joinAll_66 rfl (lv_at hl 3 rfl) ?_
              refine lv_iload_n hx hb dX3_joinAll_67 rfl (lv_at hl 4 rfl) ?_
              refine lv_iload hx hb dX3_joinAll_68 (lv_at hl 1 rfl) ?_
              obtain ⟨hb1, hb2, hf⟩ := hf
              refine q_backV0 X hH (q_runV [.int l1, .int l3, .int v5] [] X hH hl (c_X3_put l D cy G X.2.2.2.1 S4 l0 l1 l3 v5 _ _ hf) mf_X3_put mv_X3_put tw_475 ⟨Nat.le_of_ble_eq_true rfl, Nat.le_of_ble_eq_true rfl⟩ hb1 hb2 (T := TX3) (N := 6) rfl rfl (Nat.le_of_ble_eq_true rfl) dX3_joinAll_70 ⟨Nat.le_of_ble_eq_true rfl, Nat.le_of_ble_eq_true rfl⟩) (fun S6 hf H locs hH => ?_)
              refine lv_iconst (v := 0) hx hb dX3_joinAll_73 (by decide) ?_
              refine lv_istore (lv' := [(5, .int 0), (2, .int (l2 &&& (((1 : Int32) <<< (v5 &&& 31)) ^^^ (-1)))), (4, .int v5), (0, .ref l0), (1, .int l1), (3, .int l3)]) hx hb dX3_joinAll_74 hl (by decide) rfl (fun ls hl => ?_)
              exact hL76 4096 S6 l0 l1 (l2 &&& (((1 : Int32) <<< (v5 &&& 31)) ^^^ (-1))) l3 v5 0 hf H locs ls hH (lv_sub hl [3, 4, 1, 5, 2, 0] rfl)
        refine lv_iconst (v := 0) hx hb dX3_joinAll_38 (by decide) ?_
        refine lv_istore_n (lv' := [(3, .int 0), (0, .ref l0), (1, .int l1), (2, .int l2)]) hx hb dX3_joinAll_39 rfl hl (by decide) rfl (fun ls hl => ?_)
        exact hL40 4096 S l0 l1 l2 0 hf H locs ls hH (lv_sub hl [1, 2, 3, 0] rfl)
      have hJ32 : ∀ (S : PS) (l0 : Nat) (l1 : Int32) (l2 : Int32) (l3 : Int32), f_X3_joinAll_J32 post (f_X3_joinAll_L4 post n4) S l0 l1 l2 l3 → ∀ (H : Heap) (locs : List Loc) (ls : Array Slot), p_H D cy S A s H locs → lv_has ls 6 [(0, .ref l0), (1, .int l1), (2, .int l2), (3, .int l3)] → W p l e rm_X3_joinAll s m [.ref a0, .int a1].toArray below meth c H locs 0 0 (MQ below (va_Qv post (p_Post D cy A) A) [.ref a0, .int a1].toArray s 0 0 A) (F0 m 32 ls []) := by
        intro S l0 l1 l2 l3 hf H locs ls hH hl
        refine lv_iinc (v := l3 + 1) (lv' := [(3, .int (l3 + 1)), (0, .ref l0), (1, .int l1), (2, .int l2)]) hx hb dX3_joinAll_32 hl (k := 3) rfl rfl (by decide) rfl (fun ls hl => ?_)
        refine lv_goto (tgt := 4) hx hb dX3_joinAll_35 (by decide) ?_
        exact ih4 S l0 l1 l2 (l3 + 1) hf H locs ls hH (lv_sub hl [1, 2, 3, 0] rfl)
      refine lv_iload_n hx hb dX3_joinAll_4 rfl (lv_at hl 3 rfl) ?_
      refine lv_bipush (v := 9) hx hb dX3_joinAll_5 (by decide) ?_
      refine lv_icmp_ge (tgt := 38) hx hb dX3_joinAll_7 (by decide) (fun c1 => ?_) (fun c1 => ?_)
      · have hf := (if_pos c1).mp hf
        exact hJ38 S l0 l1 l2 hf H locs ls hH (lv_sub hl [0, 1, 2] rfl)
      · have hf := (if_neg c1).mp hf
        refine lv_aload_n hx hb dX3_joinAll_10 rfl (lv_at hl 0 rfl) ?_
        refine q_getR (T := TX3) (N := 6) X hH hf iw_X3 rfl (by decide) tw_127 (fun _ h => h) dX3_joinAll_11 (fun v2 hf => ?_)
        refine lv_iload_n hx hb dX3_joinAll_14 rfl (lv_at hl 3 rfl) ?_
        refine lv_iconst (v := 0) hx hb dX3_joinAll_15 (by decide) ?_
        refine q_iast X hH hf dX3_joinAll_16 (fun S3 hf H locs hH => ?_)
        refine lv_aload_n hx hb dX3_joinAll_17 rfl (lv_at hl 0 rfl) ?_
        refine q_getR (T := TX3) (N := 6) X hH hf iw_X3 rfl (by decide) tw_126 (fun _ h => h) dX3_joinAll_18 (fun v4 hf => ?_)
        refine lv_iload_n hx hb dX3_joinAll_21 rfl (lv_at hl 3 rfl) ?_
        refine q_iald X hH hf dX3_joinAll_22 (fun v5 hf => ?_)
        refine lv_if_eq (tgt := 32) hx hb dX3_joinAll_23 (by decide) (fun c6 => ?_) (fun c6 => ?_)
        · have hf := (if_pos c6).mp hf
          exact hJ32 S3 l0 l1 l2 l3 hf H locs ls hH hl
        · have hf := (if_neg c6).mp hf
          refine lv_iload_n hx hb dX3_joinAll_26 rfl (lv_at hl 2 rfl) ?_
          refine lv_iconst (v := 1) hx hb dX3_joinAll_27 (by decide) ?_
          refine lv_iload_n hx hb dX3_joinAll_28 rfl (lv_at hl 3 rfl) ?_
          refine lv_ishl hx hb dX3_joinAll_29 ?_
          refine lv_ior hx hb dX3_joinAll_30 ?_
          refine lv_istore_n (lv' := [(2, .int (l2 ||| ((1 : Int32) <<< (l3 &&& 31)))), (0, .ref l0), (1, .int l1), (3, .int l3)]) hx hb dX3_joinAll_31 rfl hl (by decide) rfl (fun ls hl => ?_)
          exact hJ32 S3 l0 l1 (l2 ||| ((1 : Int32) <<< (l3 &&& 31))) l3 hf H locs ls hH (lv_sub hl [1, 2, 0, 3] rfl)
  refine lv_iconst (v := 0) hx hb dX3_joinAll_0 (by decide) ?_
  refine lv_istore_n (lv' := [(2, .int 0), (0, .ref a0), (1, .int a1)]) hx hb dX3_joinAll_1 rfl hl (by decide) rfl (fun ls hl => ?_)
  refine lv_iconst (v := 0) hx hb dX3_joinAll_2 (by decide) ?_
  refine lv_istore_n (lv' := [(3, .int 0), (2, .int 0), (0, .ref a0), (1, .int a1)]) hx hb dX3_joinAll_3 rfl hl (by decide) rfl (fun ls hl => ?_)
  exact hL4 4096 S a0 a1 0 0 hf H locs ls hH (lv_sub hl [2, 3, 1, 0] rfl)
-- X7_leastAgain
def f_X7_leastAgain (S : PS) (a0 : Nat) (bc bs : Nat) (post : Int32 → PS → Prop) (postX : String → PS → Prop) : Prop :=
  isO S a0 11 (
  f_X7_isTooSmall S a0 fun v2 S1 => (
  if v2 = 0 then
    gR S1 a0 11 5 fun v4 => (
    gR S1 a0 11 0 fun v5 => (
    isO S1 v4 4 (
    f_X0_measure S1 v4 v5 fun S6 => (
    gR S6 a0 11 5 fun v8 => (
    isO S6 v8 4 (
    f_X0_leastFeud S6 v8 fun v10 S9 => (
    post v10 S9)))))))
  else
    tX S1 "java/util/NoSuchElementException" bc bs postX))
abbrev rm_X7_leastAgain (mc ms : Nat) : Room := { frames := 6, cells := mc, slots := ms, locals := 91 }
set_option maxHeartbeats 4000000 in
set_option maxRecDepth 100000 in
theorem c_X7_leastAgain (l : Launch) (D : va_G) (cy : Nat → ClassId) (G : p_GT) (hG : p_ok G) (hst : l.stackTraces = false) (hGE : ∀ (A : Nat → Prop) (U : State) (H : Heap), G A U H → p_Ex A U H) (S : PS) (a0 : Nat) (mc ms : Nat) (post : Int32 → PS → Prop) (postX : String → PS → Prop) (sz : Nat) (hf : f_X7_leastAgain S a0 mc ms post postX) : p_Xi l D cy G S sz yX7_leastAgain (Cond.code yX7_leastAgain cX7_leastAgain 1 (some .int) :: wG) (rm_X7_leastAgain mc ms) [.ref a0] mc ms post postX := by
  refine q_startX hG (Qc := fun A => va_Qi post (p_Post D cy A) A) (XC := fun A => p_XC D cy A postX) mf_X7_leastAgain (Nat.le_of_ble_eq_true rfl) (own := RX7) rfl ?_
  intro p e s m below meth c A X hr hlk hnm htab ls hl hH
  have hx := X.1.1
  have hb := X.1.2.1
  replace hl : lv_has ls 1 [(0, .ref a0)] := hl
  have main : ∀ (H : Heap) (locs : List Loc) (ls : Array Slot) (cells slots bc bs : Nat), f_X7_leastAgain S a0 bc bs post postX → p_H D cy S A s H locs → lv_has ls 1 [(0, .ref a0)] → cells + bc ≤ mc ∧ slots + bs ≤ ms → W p l e (rm_X7_leastAgain mc ms) s m [.ref a0].toArray below meth c H locs cells slots (vx_MQ below (va_Qi post (p_Post D cy A) A) (p_XC D cy A postX) [.ref a0].toArray s mc ms A) (F0 m 0 ls []) := by
    intro H locs ls cells slots bc bs hf hH hl hB
    refine lv_aload_n hx hb dX7_leastAgain_0 rfl (lv_at hl 0 rfl) ?_
    obtain ⟨hb1, hb2, hf⟩ := hf
    refine q_backI0 X hH (q_runV [] [] X hH hl (c_X7_isTooSmall l D cy G X.2.2.2.1 S a0 _ _ hf) mf_X7_isTooSmall mv_X7_isTooSmall tw_624 ⟨Nat.le_of_ble_eq_true rfl, Nat.le_of_ble_eq_true rfl⟩ hb1 hb2 (T := TX7) (N := 12) rfl rfl (Nat.le_of_ble_eq_true rfl) dX7_leastAgain_1 ⟨Nat.le_trans (Nat.le_add_right _ _) hB.1, Nat.le_trans (Nat.le_add_right _ _) hB.2⟩) (fun v2 S1 hf H locs hH => ?_)
    refine lv_if_eq (tgt := 17) hx hb dX7_leastAgain_4 (by decide) (fun c3 => ?_) (fun c3 => ?_)
    · have hf := (if_pos c3).mp hf
      refine lv_aload_n hx hb dX7_leastAgain_17 rfl (lv_at hl 0 rfl) ?_
      refine q_getR (T := TX7) (N := 12) X hH hf iw_X7 rfl (by decide) tw_258 (fun _ h => h) dX7_leastAgain_18 (fun v4 hf => ?_)
      refine lv_aload_n hx hb dX7_leastAgain_21 rfl (lv_at hl 0 rfl) ?_
      refine q_getR (T := TX7) (N := 12) X hH hf iw_X7 rfl (by decide) tw_253 (fun _ h => h) dX7_leastAgain_22 (fun v5 hf => ?_)
      obtain ⟨hb1, hb2, hf⟩ := hf
      refine q_backV0 X hH (q_runV [.ref v5] [] X hH hl (c_X0_measure l D cy G X.2.2.2.1 S1 v4 v5 _ _ hf) mf_X0_measure mv_X0_measure tw_540 ⟨Nat.le_of_ble_eq_true rfl, Nat.le_of_ble_eq_true rfl⟩ hb1 hb2 (T := TX0) (N := 2) rfl rfl (Nat.le_of_ble_eq_true rfl) dX7_leastAgain_25 ⟨Nat.le_trans (Nat.le_add_right _ _) hB.1, Nat.le_trans (Nat.le_add_right _ _) hB.2⟩) (fun S6 hf H locs hH => ?_)
      refine lv_aload_n hx hb dX7_leastAgain_28 rfl (lv_at hl 0 rfl) ?_
      refine q_getR (T := TX7) (N := 12) X hH hf iw_X7 rfl (by decide) tw_258 (fun _ h => h) dX7_leastAgain_29 (fun v8 hf => ?_)
      obtain ⟨hb1, hb2, hf⟩ := hf
      refine q_backI0 X hH (q_runV [] [] X hH hl (c_X0_leastFeud l D cy G X.2.2.2.1 S6 v8 _ _ hf) mf_X0_leastFeud mv_X0_leastFeud tw_658 ⟨Nat.le_of_ble_eq_true rfl, Nat.le_of_ble_eq_true rfl⟩ hb1 hb2 (T := TX0) (N := 2) rfl rfl (Nat.le_of_ble_eq_true rfl) dX7_leastAgain_32 ⟨Nat.le_trans (Nat.le_add_right _ _) hB.1, Nat.le_trans (Nat.le_add_right _ _) hB.2⟩) (fun v10 S9 hf H locs hH => ?_)
      exact vx_ret (q_retI X hH hr hlk hf (Nat.le_trans (Nat.le_add_right _ _) hB.1) (Nat.le_trans (Nat.le_add_right _ _) hB.2) dX7_leastAgain_35)
    · have hf := (if_neg c3).mp hf
      exact q_throwX (by decide +kernel) (by decide +kernel) (by decide +kernel) (by decide +kernel) X hH hl hB rfl rfl hst (hGE _ _ _ X.2.2.2.2) hf tw_518 tw_49 (text := "there are fewer than two households") (List.mem_of_getElem? (i := 6) rfl) xa_NoSuchElementException xg_NoSuchElementException (by decide +kernel) (by decide +kernel) dX7_leastAgain_7 dX7_leastAgain_10 dX7_leastAgain_11 dX7_leastAgain_13 dX7_leastAgain_16 htab ⟨Nat.le_of_ble_eq_true rfl, Nat.le_of_ble_eq_true rfl⟩ (Nat.le_of_ble_eq_true rfl) hlk
  exact main s.heap [] ls 0 0 mc ms hf hH hl ⟨by omega, by omega⟩
-- X7_leastSides
def f_X7_leastSides (S : PS) (a0 : Nat) (bc bs : Nat) (post : Int32 → PS → Prop) (postX : String → PS → Prop) : Prop :=
  isO S a0 11 (
  f_X7_isTooSmall S a0 fun v2 S1 => (
  if v2 = 0 then
    gR S1 a0 11 5 fun v4 => (
    gR S1 a0 11 0 fun v5 => (
    isO S1 v4 4 (
    f_X0_measure S1 v4 v5 fun S6 => (
    gR S6 a0 11 5 fun v8 => (
    isO S6 v8 4 (
    f_X0_leastCount S6 v8 fun v10 S9 => (
    post v10 S9)))))))
  else
    tX S1 "java/util/NoSuchElementException" bc bs postX))
abbrev rm_X7_leastSides (mc ms : Nat) : Room := { frames := 6, cells := mc, slots := ms, locals := 91 }
set_option maxHeartbeats 4000000 in
set_option maxRecDepth 100000 in
theorem c_X7_leastSides (l : Launch) (D : va_G) (cy : Nat → ClassId) (G : p_GT) (hG : p_ok G) (hst : l.stackTraces = false) (hGE : ∀ (A : Nat → Prop) (U : State) (H : Heap), G A U H → p_Ex A U H) (S : PS) (a0 : Nat) (mc ms : Nat) (post : Int32 → PS → Prop) (postX : String → PS → Prop) (sz : Nat) (hf : f_X7_leastSides S a0 mc ms post postX) : p_Xi l D cy G S sz yX7_leastSides (Cond.code yX7_leastSides cX7_leastSides 1 (some .int) :: wG) (rm_X7_leastSides mc ms) [.ref a0] mc ms post postX := by
  refine q_startX hG (Qc := fun A => va_Qi post (p_Post D cy A) A) (XC := fun A => p_XC D cy A postX) mf_X7_leastSides (Nat.le_of_ble_eq_true rfl) (own := RX7) rfl ?_
  intro p e s m below meth c A X hr hlk hnm htab ls hl hH
  have hx := X.1.1
  have hb := X.1.2.1
  replace hl : lv_has ls 1 [(0, .ref a0)] := hl
  have main : ∀ (H : Heap) (locs : List Loc) (ls : Array Slot) (cells slots bc bs : Nat), f_X7_leastSides S a0 bc bs post postX → p_H D cy S A s H locs → lv_has ls 1 [(0, .ref a0)] → cells + bc ≤ mc ∧ slots + bs ≤ ms → W p l e (rm_X7_leastSides mc ms) s m [.ref a0].toArray below meth c H locs cells slots (vx_MQ below (va_Qi post (p_Post D cy A) A) (p_XC D cy A postX) [.ref a0].toArray s mc ms A) (F0 m 0 ls []) := by
    intro H locs ls cells slots bc bs hf hH hl hB
    refine lv_aload_n hx hb dX7_leastSides_0 rfl (lv_at hl 0 rfl) ?_
    obtain ⟨hb1, hb2, hf⟩ := hf
    refine q_backI0 X hH (q_runV [] [] X hH hl (c_X7_isTooSmall l D cy G X.2.2.2.1 S a0 _ _ hf) mf_X7_isTooSmall mv_X7_isTooSmall tw_624 ⟨Nat.le_of_ble_eq_true rfl, Nat.le_of_ble_eq_true rfl⟩ hb1 hb2 (T := TX7) (N := 12) rfl rfl (Nat.le_of_ble_eq_true rfl) dX7_leastSides_1 ⟨Nat.le_trans (Nat.le_add_right _ _) hB.1, Nat.le_trans (Nat.le_add_right _ _) hB.2⟩) (fun v2 S1 hf H locs hH => ?_)
    refine lv_if_eq (tgt := 17) hx hb dX7_leastSides_4 (by decide) (fun c3 => ?_) (fun c3 => ?_)
    · have hf := (if_pos c3).mp hf
      refine lv_aload_n hx hb dX7_leastSides_17 rfl (lv_at hl 0 rfl) ?_
      refine q_getR (T := TX7) (N := 12) X hH hf iw_X7 rfl (by decide) tw_258 (fun _ h => h) dX7_leastSides_18 (fun v4 hf => ?_)
      refine lv_aload_n hx hb dX7_leastSides_21 rfl (lv_at hl 0 rfl) ?_
      refine q_getR (T := TX7) (N := 12) X hH hf iw_X7 rfl (by decide) tw_253 (fun _ h => h) dX7_leastSides_22 (fun v5 hf => ?_)
      obtain ⟨hb1, hb2, hf⟩ := hf
      refine q_backV0 X hH (q_runV [.ref v5] [] X hH hl (c_X0_measure l D cy G X.2.2.2.1 S1 v4 v5 _ _ hf) mf_X0_measure mv_X0_measure tw_540 ⟨Nat.le_of_ble_eq_true rfl, Nat.le_of_ble_eq_true rfl⟩ hb1 hb2 (T := TX0) (N := 2) rfl rfl (Nat.le_of_ble_eq_true rfl) dX7_leastSides_25 ⟨Nat.le_trans (Nat.le_add_right _ _) hB.1, Nat.le_trans (Nat.le_add_right _ _) hB.2⟩) (fun S6 hf H locs hH => ?_)
      refine lv_aload_n hx hb dX7_leastSides_28 rfl (lv_at hl 0 rfl) ?_
      refine q_getR (T := TX7) (N := 12) X hH hf iw_X7 rfl (by decide) tw_258 (fun _ h => h) dX7_leastSides_29 (fun v8 hf => ?_)
      obtain ⟨hb1, hb2, hf⟩ := hf
      refine q_backI0 X hH (q_runV [] [] X hH hl (c_X0_leastCount l D cy G X.2.2.2.1 S6 v8 _ _ hf) mf_X0_leastCount mv_X0_leastCount tw_933 ⟨Nat.le_of_ble_eq_true rfl, Nat.le_of_ble_eq_true rfl⟩ hb1 hb2 (T := TX0) (N := 2) rfl rfl (Nat.le_of_ble_eq_true rfl) dX7_leastSides_32 ⟨Nat.le_trans (Nat.le_add_right _ _) hB.1, Nat.le_trans (Nat.le_add_right _ _) hB.2⟩) (fun v10 S9 hf H locs hH => ?_)
      exact vx_ret (q_retI X hH hr hlk hf (Nat.le_trans (Nat.le_add_right _ _) hB.1) (Nat.le_trans (Nat.le_add_right _ _) hB.2) dX7_leastSides_35)
    · have hf := (if_neg c3).mp hf
      exact q_throwX (by decide +kernel) (by decide +kernel) (by decide +kernel) (by decide +kernel) X hH hl hB rfl rfl hst (hGE _ _ _ X.2.2.2.2) hf tw_518 tw_49 (text := "there are fewer than two households") (List.mem_of_getElem? (i := 6) rfl) xa_NoSuchElementException xg_NoSuchElementException (by decide +kernel) (by decide +kernel) dX7_leastSides_7 dX7_leastSides_10 dX7_leastSides_11 dX7_leastSides_13 dX7_leastSides_16 htab ⟨Nat.le_of_ble_eq_true rfl, Nat.le_of_ble_eq_true rfl⟩ (Nat.le_of_ble_eq_true rfl) hlk
  exact main s.heap [] ls 0 0 mc ms hf hH hl ⟨by omega, by omega⟩
-- X7_between
def f_X7_between_J22 (post : Int32 → PS → Prop) (postX : String → PS → Prop) (S : PS) (bc bs : Nat)  : Prop :=
  tX S "java/lang/IndexOutOfBoundsException" bc bs postX
def f_X7_between (S : PS) (a0 : Nat) (a1 : Int32) (a2 : Int32) (bc bs : Nat) (post : Int32 → PS → Prop) (postX : String → PS → Prop) : Prop :=
  gR S a0 11 0 fun v1 => (
  isO S v1 10 (
  f_X6_has S v1 a1 fun v3 S2 => (
  if v3 = 0 then
    f_X7_between_J22 post postX S2 bc bs
  else
    gR S2 a0 11 0 fun v5 => (
    isO S2 v5 10 (
    f_X6_has S2 v5 a2 fun v7 S6 => (
    if v7 = 0 then
      f_X7_between_J22 post postX S6 bc bs
    else
      if a1 = a2 then
        tX S6 "java/lang/IllegalArgumentException" bc bs postX
      else
        gR S6 a0 11 5 fun v10 => (
        gR S6 a0 11 0 fun v11 => (
        isO S6 v10 4 (
        f_X0_measure S6 v10 v11 fun S12 => (
        gR S12 a0 11 5 fun v14 => (
        isO S12 v14 4 (
        f_X0_leastApart S12 v14 a1 a2 fun v16 S15 => (
        post v16 S15)))))))))))))
abbrev rm_X7_between (mc ms : Nat) : Room := { frames := 6, cells := mc, slots := ms, locals := 91 }
set_option maxHeartbeats 4000000 in
set_option maxRecDepth 100000 in
theorem c_X7_between (l : Launch) (D : va_G) (cy : Nat → ClassId) (G : p_GT) (hG : p_ok G) (hst : l.stackTraces = false) (hGE : ∀ (A : Nat → Prop) (U : State) (H : Heap), G A U H → p_Ex A U H) (S : PS) (a0 : Nat) (a1 : Int32) (a2 : Int32) (mc ms : Nat) (post : Int32 → PS → Prop) (postX : String → PS → Prop) (sz : Nat) (hf : f_X7_between S a0 a1 a2 mc ms post postX) : p_Xi l D cy G S sz yX7_between (Cond.code yX7_between cX7_between 3 (some .int) :: wG) (rm_X7_between mc ms) [.ref a0, .int a1, .int a2] mc ms post postX := by
  refine q_startX hG (Qc := fun A => va_Qi post (p_Post D cy A) A) (XC := fun A => p_XC D cy A postX) mf_X7_between (Nat.le_of_ble_eq_true rfl) (own := RX7) rfl ?_
  intro p e s m below meth c A X hr hlk hnm htab ls hl hH
  have hx := X.1.1
  have hb := X.1.2.1
  replace hl : lv_has ls 3 [(0, .ref a0), (1, .int a1), (2, .int a2)] := hl
  have main : ∀ (H : Heap) (locs : List Loc) (ls : Array Slot) (cells slots bc bs : Nat), f_X7_between S a0 a1 a2 bc bs post postX → p_H D cy S A s H locs → lv_has ls 3 [(0, .ref a0), (1, .int a1), (2, .int a2)] → cells + bc ≤ mc ∧ slots + bs ≤ ms → W p l e (rm_X7_between mc ms) s m [.ref a0, .int a1, .int a2].toArray below meth c H locs cells slots (vx_MQ below (va_Qi post (p_Post D cy A) A) (p_XC D cy A postX) [.ref a0, .int a1, .int a2].toArray s mc ms A) (F0 m 0 ls []) := by
    intro H locs ls cells slots bc bs hf hH hl hB
    have hJ22 : ∀ (S : PS) (bc bs : Nat), f_X7_between_J22 post postX S bc bs → ∀ (H : Heap) (locs : List Loc) (ls : Array Slot) (cells slots : Nat), p_H D cy S A s H locs → lv_has ls 3 [] → cells + bc ≤ mc ∧ slots + bs ≤ ms → W p l e (rm_X7_between mc ms) s m [.ref a0, .int a1, .int a2].toArray below meth c H locs cells slots (vx_MQ below (va_Qi post (p_Post D cy A) A) (p_XC D cy A postX) [.ref a0, .int a1, .int a2].toArray s mc ms A) (F0 m 22 ls []) := by
      intro S bc bs hf H locs ls cells slots hH hl hB
      exact q_throw X hH hl hB rfl rfl hst (hGE _ _ _ X.2.2.2.2) hf tw_298 tw_52 (text := "there is no such household") (List.mem_of_getElem? (i := 1) rfl) xa_IndexOutOfBoundsException xg_IndexOutOfBoundsException (by decide +kernel) (by decide +kernel) dX7_between_22 dX7_between_25 dX7_between_26 dX7_between_28 dX7_between_31 htab ⟨Nat.le_of_ble_eq_true rfl, Nat.le_of_ble_eq_true rfl⟩ (Nat.le_of_ble_eq_true rfl) hlk
    refine lv_aload_n hx hb dX7_between_0 rfl (lv_at hl 0 rfl) ?_
    refine q_getR (T := TX7) (N := 12) X hH hf iw_X7 rfl (by decide) tw_253 (fun _ h => h) dX7_between_1 (fun v1 hf => ?_)
    refine lv_iload_n hx hb dX7_between_4 rfl (lv_at hl 1 rfl) ?_
    obtain ⟨hb1, hb2, hf⟩ := hf
    refine q_backI0 X hH (q_runV [.int a1] [] X hH hl (c_X6_has l D cy G X.2.2.2.1 S v1 a1 _ _ hf) mf_X6_has mv_X6_has tw_294 ⟨Nat.le_of_ble_eq_true rfl, Nat.le_of_ble_eq_true rfl⟩ hb1 hb2 (T := TX6) (N := 6) rfl rfl (Nat.le_of_ble_eq_true rfl) dX7_between_5 ⟨Nat.le_trans (Nat.le_add_right _ _) hB.1, Nat.le_trans (Nat.le_add_right _ _) hB.2⟩) (fun v3 S2 hf H locs hH => ?_)
    refine lv_if_eq (tgt := 22) hx hb dX7_between_8 (by decide) (fun c4 => ?_) (fun c4 => ?_)
    · have hf := (if_pos c4).mp hf
      exact hJ22 S2 bc bs hf H locs ls cells slots hH (lv_sub hl [] rfl) hB
    · have hf := (if_neg c4).mp hf
      refine lv_aload_n hx hb dX7_between_11 rfl (lv_at hl 0 rfl) ?_
      refine q_getR (T := TX7) (N := 12) X hH hf iw_X7 rfl (by decide) tw_253 (fun _ h => h) dX7_between_12 (fun v5 hf => ?_)
      refine lv_iload_n hx hb dX7_between_15 rfl (lv_at hl 2 rfl) ?_
      obtain ⟨hb1, hb2, hf⟩ := hf
      refine q_backI0 X hH (q_runV [.int a2] [] X hH hl (c_X6_has l D cy G X.2.2.2.1 S2 v5 a2 _ _ hf) mf_X6_has mv_X6_has tw_294 ⟨Nat.le_of_ble_eq_true rfl, Nat.le_of_ble_eq_true rfl⟩ hb1 hb2 (T := TX6) (N := 6) rfl rfl (Nat.le_of_ble_eq_true rfl) dX7_between_16 ⟨Nat.le_trans (Nat.le_add_right _ _) hB.1, Nat.le_trans (Nat.le_add_right _ _) hB.2⟩) (fun v7 S6 hf H locs hH => ?_)
      refine lv_if_ne (tgt := 32) hx hb dX7_between_19 (by decide) (fun c8 => ?_) (fun c8 => ?_)
      · have hf := (if_neg c8).mp hf
        refine lv_iload_n hx hb dX7_between_32 rfl (lv_at hl 1 rfl) ?_
        refine lv_iload_n hx hb dX7_between_33 rfl (lv_at hl 2 rfl) ?_
        refine lv_icmp_ne (tgt := 47) hx hb dX7_between_34 (by decide) (fun c9 => ?_) (fun c9 => ?_)
        · have hf := (if_neg c9).mp hf
          refine lv_aload_n hx hb dX7_between_47 rfl (lv_at hl 0 rfl) ?_
          refine q_getR (T := TX7) (N := 12) X hH hf iw_X7 rfl (by decide) tw_258 (fun _ h => h) dX7_between_48 (fun v10 hf => ?_)
          refine lv_aload_n hx hb dX7_between_51 rfl (lv_at hl 0 rfl) ?_
          refine q_getR (T := TX7) (N := 12) X hH hf iw_X7 rfl (by decide) tw_253 (fun _ h => h) dX7_between_52 (fun v11 hf => ?_)
          obtain ⟨hb1, hb2, hf⟩ := hf
          refine q_backV0 X hH (q_runV [.ref v11] [] X hH hl (c_X0_measure l D cy G X.2.2.2.1 S6 v10 v11 _ _ hf) mf_X0_measure mv_X0_measure tw_540 ⟨Nat.le_of_ble_eq_true rfl, Nat.le_of_ble_eq_true rfl⟩ hb1 hb2 (T := TX0) (N := 2) rfl rfl (Nat.le_of_ble_eq_true rfl) dX7_between_55 ⟨Nat.le_trans (Nat.le_add_right _ _) hB.1, Nat.le_trans (Nat.le_add_right _ _) hB.2⟩) (fun S12 hf H locs hH => ?_)
          refine lv_aload_n hx hb dX7_between_58 rfl (lv_at hl 0 rfl) ?_
          refine q_getR (T := TX7) (N := 12) X hH hf iw_X7 rfl (by decide) tw_258 (fun _ h => h) dX7_between_59 (fun v14 hf => ?_)
          refine lv_iload_n hx hb dX7_between_62 rfl (lv_at hl 1 rfl) ?_
          refine lv_iload_n hx hb dX7_between_63 rfl (lv_at hl 2 rfl) ?_
          obtain ⟨hb1, hb2, hf⟩ := hf
          refine q_backI0 X hH (q_runV [.int a1, .int a2] [] X hH hl (c_X0_leastApart l D cy G X.2.2.2.1 S12 v14 a1 a2 _ _ hf) mf_X0_leastApart mv_X0_leastApart tw_547 ⟨Nat.le_of_ble_eq_true rfl, Nat.le_of_ble_eq_true rfl⟩ hb1 hb2 (T := TX0) (N := 2) rfl rfl (Nat.le_of_ble_eq_true rfl) dX7_between_64 ⟨Nat.le_trans (Nat.le_add_right _ _) hB.1, Nat.le_trans (Nat.le_add_right _ _) hB.2⟩) (fun v16 S15 hf H locs hH => ?_)
          exact vx_ret (q_retI X hH hr hlk hf (Nat.le_trans (Nat.le_add_right _ _) hB.1) (Nat.le_trans (Nat.le_add_right _ _) hB.2) dX7_between_67)
        · have hf := (if_pos c9).mp hf
          exact q_throw X hH hl hB rfl rfl hst (hGE _ _ _ X.2.2.2.2) hf tw_406 tw_48 (text := "both are one household") (List.mem_of_getElem? (i := 11) rfl) xa_IllegalArgumentException xg_IllegalArgumentException (by decide +kernel) (by decide +kernel) dX7_between_37 dX7_between_40 dX7_between_41 dX7_between_43 dX7_between_46 htab ⟨Nat.le_of_ble_eq_true rfl, Nat.le_of_ble_eq_true rfl⟩ (Nat.le_of_ble_eq_true rfl) hlk
      · have hf := (if_pos c8).mp hf
        exact hJ22 S6 bc bs hf H locs ls cells slots hH (lv_sub hl [] rfl) hB
  exact main s.heap [] ls 0 0 mc ms hf hH hl ⟨by omega, by omega⟩
-- X7_refusesPair
def f_X7_refusesPair_J27 (post : Int32 → PS → Prop) (S : PS) (l1 : Int32) (t0 : Int32) (t1 : Nat) : Prop :=
  isO S t1 11 (
  f_X7_refusesIf S t1 t0 3 l1 fun v2 S1 => (
  if v2 = 0 then
    nZ .boolean 0 (post 0 S1)
  else
    nZ .boolean 1 (post 1 S1)))
def f_X7_refusesPair (S : PS) (a0 : Nat) (a1 : Int32) (a2 : Int32) (post : Int32 → PS → Prop) : Prop :=
  isO S a0 11 (
  f_X7_refusesHousehold S a0 a1 fun v2 S1 => (
  if v2 = 0 then
    isO S1 a0 11 (
    f_X7_refusesHousehold S1 a0 a2 fun v5 S4 => (
    if v5 = 0 then
      if a1 = a2 then
        f_X7_refusesPair_J27 post S4 a1 1 a0
      else
        f_X7_refusesPair_J27 post S4 a1 0 a0
    else
      nZ .boolean 1 (post 1 S4)))
  else
    nZ .boolean 1 (post 1 S1)))
abbrev rm_X7_refusesPair : Room := { frames := 3, cells := 0, slots := 0, locals := 66 }
set_option maxHeartbeats 4000000 in
set_option maxRecDepth 100000 in
theorem c_X7_refusesPair (l : Launch) (D : va_G) (cy : Nat → ClassId) (G : p_GT) (hG : p_ok G) (S : PS) (a0 : Nat) (a1 : Int32) (a2 : Int32) (post : Int32 → PS → Prop) (sz : Nat) (hf : f_X7_refusesPair S a0 a1 a2 post) : p_Mi l D cy G S sz yX7_refusesPair (Cond.code yX7_refusesPair cX7_refusesPair 3 (some .boolean) :: wG) rm_X7_refusesPair [.ref a0, .int a1, .int a2] 0 0 post := by
  refine q_start hG (Qc := fun A => va_Qi post (p_Post D cy A) A) mf_X7_refusesPair (Nat.le_of_ble_eq_true rfl) (own := RX7) rfl ?_
  intro p e s m below meth c A X hr hlk hnm ls hl hH
  have hx := X.1.1
  have hb := X.1.2.1
  replace hl : lv_has ls 3 [(0, .ref a0), (1, .int a1), (2, .int a2)] := hl
  obtain ⟨H, hHe⟩ : ∃ H, H = s.heap := ⟨_, rfl⟩
  obtain ⟨locs, hlo⟩ : ∃ locs : List Loc, locs = [] := ⟨_, rfl⟩
  rw [← hHe, ← hlo] at hH
  show W p l e rm_X7_refusesPair s m [.ref a0, .int a1, .int a2].toArray below meth c s.heap [] 0 0 _ _
  rw [← hHe, ← hlo]
  have hJ27 : ∀ (S : PS) (l1 : Int32) (t0 : Int32) (t1 : Nat), f_X7_refusesPair_J27 post S l1 t0 t1 → ∀ (H : Heap) (locs : List Loc) (ls : Array Slot), p_H D cy S A s H locs → lv_has ls 3 [(1, .int l1)] → W p l e rm_X7_refusesPair s m [.ref a0, .int a1, .int a2].toArray below meth c H locs 0 0 (MQ below (va_Qi post (p_Post D cy A) A) [.ref a0, .int a1, .int a2].toArray s 0 0 A) (F0 m 27 ls [.int t0, .ref t1]) := by
    intro S l1 t0 t1 hf H locs ls hH hl
    refine lv_iconst (v := 3) hx hb dX7_refusesPair_27 (by decide) ?_
    refine lv_iload_n hx hb dX7_refusesPair_28 rfl (lv_at hl 0 rfl) ?_
    obtain ⟨hb1, hb2, hf⟩ := hf
    refine q_backI0 X hH (q_runV [.int t0, .int 3, .int l1] [] X hH hl (c_X7_refusesIf l D cy G X.2.2.2.1 S t1 t0 3 l1 _ _ hf) mf_X7_refusesIf mv_X7_refusesIf tw_993 ⟨Nat.le_of_ble_eq_true rfl, Nat.le_of_ble_eq_true rfl⟩ hb1 hb2 (T := TX7) (N := 12) rfl rfl (Nat.le_of_ble_eq_true rfl) dX7_refusesPair_29 ⟨Nat.le_of_ble_eq_true rfl, Nat.le_of_ble_eq_true rfl⟩) (fun v2 S1 hf H locs hH => ?_)
    refine lv_if_eq (tgt := 39) hx hb dX7_refusesPair_32 (by decide) (fun c3 => ?_) (fun c3 => ?_)
    · have hf := (if_pos c3).mp hf
      refine lv_iconst (v := 0) hx hb dX7_refusesPair_39 (by decide) ?_
      exact q_retZ X hH hr hlk hf (Nat.zero_le _) (Nat.zero_le _) dX7_refusesPair_40
    · have hf := (if_neg c3).mp hf
      refine lv_iconst (v := 1) hx hb dX7_refusesPair_35 (by decide) ?_
      refine lv_goto (tgt := 40) hx hb dX7_refusesPair_36 (by decide) ?_
      exact q_retZ X hH hr hlk hf (Nat.zero_le _) (Nat.zero_le _) dX7_refusesPair_40
  refine lv_aload_n hx hb dX7_refusesPair_0 rfl (lv_at hl 0 rfl) ?_
  refine lv_iload_n hx hb dX7_refusesPair_1 rfl (lv_at hl 1 rfl) ?_
  obtain ⟨hb1, hb2, hf⟩ := hf
  refine q_backI0 X hH (q_runV [.int a1] [] X hH hl (c_X7_refusesHousehold l D cy G X.2.2.2.1 S a0 a1 _ _ hf) mf_X7_refusesHousehold mv_X7_refusesHousehold tw_1001 ⟨Nat.le_of_ble_eq_true rfl, Nat.le_of_ble_eq_true rfl⟩ hb1 hb2 (T := TX7) (N := 12) rfl rfl (Nat.le_of_ble_eq_true rfl) dX7_refusesPair_2 ⟨Nat.le_of_ble_eq_true rfl, Nat.le_of_ble_eq_true rfl⟩) (fun v2 S1 hf H locs hH => ?_)
  refine lv_if_ne (tgt := 35) hx hb dX7_refusesPair_5 (by decide) (fun c3 => ?_) (fun c3 => ?_)
  · have hf := (if_neg c3).mp hf
    refine lv_iconst (v := 1) hx hb dX7_refusesPair_35 (by decide) ?_
    refine lv_goto (tgt := 40) hx hb dX7_refusesPair_36 (by decide) ?_
    exact q_retZ X hH hr hlk hf (Nat.zero_le _) (Nat.zero_le _) dX7_refusesPair_40
  · have hf := (if_pos c3).mp hf
    refine lv_aload_n hx hb dX7_refusesPair_8 rfl (lv_at hl 0 rfl) ?_
    refine lv_iload_n hx hb dX7_refusesPair_9 rfl (lv_at hl 2 rfl) ?_
    obtain ⟨hb1, hb2, hf⟩ := hf
    refine q_backI0 X hH (q_runV [.int a2] [] X hH hl (c_X7_refusesHousehold l D cy G X.2.2.2.1 S1 a0 a2 _ _ hf) mf_X7_refusesHousehold mv_X7_refusesHousehold tw_1001 ⟨Nat.le_of_ble_eq_true rfl, Nat.le_of_ble_eq_true rfl⟩ hb1 hb2 (T := TX7) (N := 12) rfl rfl (Nat.le_of_ble_eq_true rfl) dX7_refusesPair_10 ⟨Nat.le_of_ble_eq_true rfl, Nat.le_of_ble_eq_true rfl⟩) (fun v5 S4 hf H locs hH => ?_)
    refine lv_if_ne (tgt := 35) hx hb dX7_refusesPair_13 (by decide) (fun c6 => ?_) (fun c6 => ?_)
    · have hf := (if_neg c6).mp hf
      refine lv_iconst (v := 1) hx hb dX7_refusesPair_35 (by decide) ?_
      refine lv_goto (tgt := 40) hx hb dX7_refusesPair_36 (by decide) ?_
      exact q_retZ X hH hr hlk hf (Nat.zero_le _) (Nat.zero_le _) dX7_refusesPair_40
    · have hf := (if_pos c6).mp hf
      refine lv_aload_n hx hb dX7_refusesPair_16 rfl (lv_at hl 0 rfl) ?_
      refine lv_iload_n hx hb dX7_refusesPair_17 rfl (lv_at hl 1 rfl) ?_
      refine lv_iload_n hx hb dX7_refusesPair_18 rfl (lv_at hl 2 rfl) ?_
      refine lv_icmp_ne (tgt := 26) hx hb dX7_refusesPair_19 (by decide) (fun c7 => ?_) (fun c7 => ?_)
      · have hf := (if_neg c7).mp hf
        refine lv_iconst (v := 0) hx hb dX7_refusesPair_26 (by decide) ?_
        exact hJ27 S4 a1 0 a0 hf H locs ls hH (lv_sub hl [1] rfl)
      · have hf := (if_pos c7).mp hf
        refine lv_iconst (v := 1) hx hb dX7_refusesPair_22 (by decide) ?_
        refine lv_goto (tgt := 27) hx hb dX7_refusesPair_23 (by decide) ?_
        exact hJ27 S4 a1 1 a0 hf H locs ls hH (lv_sub hl [1] rfl)
-- X7_fillKeys
def f_X7_fillKeys_L25 (post : PS → Prop) : Nat → PS → Nat → Int32 → Int32 → Prop
  | 0, _, _, _, _ => False
  | n + 1, S, l0, l1, l2 =>
  gR S l0 11 0 fun v1 => (
  gI S v1 10 1 fun v2 => (
  if v2 ≤ l2 then
    post S
  else
    gR S l0 11 10 fun v4 => (
    lE S v4 fun v5 => (
    if v5 ≤ l2 then
      post S
    else
      gR S l0 11 10 fun v7 => (
      isO S l0 11 (
      f_X7_keyOf S l0 l1 l2 fun v9 S8 => (
      sI S8 v7 0 l2 v9 fun S10 => (
      (f_X7_fillKeys_L25 post n) S10 l0 l1 (l2 + 1)))))))))
def f_X7_fillKeys_J23 (post : PS → Prop) (S : PS) (l0 : Nat) (l1 : Int32) : Prop :=
  f_X7_fillKeys_L25 post 4096 S l0 l1 0
def f_X7_fillKeys (S : PS) (a0 : Nat) (a1 : Int32) (post : PS → Prop) : Prop :=
  if a1 = 3 then
    isO S a0 11 (
    f_X7_isTooSmall S a0 fun v3 S2 => (
    if v3 = 0 then
      gR S2 a0 11 5 fun v5 => (
      gR S2 a0 11 0 fun v6 => (
      isO S2 v5 4 (
      f_X0_measure S2 v5 v6 fun S7 => (
      f_X7_fillKeys_J23 post S7 a0 a1))))
    else
      f_X7_fillKeys_J23 post S2 a0 a1))
  else
    f_X7_fillKeys_J23 post S a0 a1
abbrev rm_X7_fillKeys : Room := { frames := 5, cells := 0, slots := 0, locals := 106 }
set_option maxHeartbeats 4000000 in
set_option maxRecDepth 100000 in
theorem c_X7_fillKeys (l : Launch) (D : va_G) (cy : Nat → ClassId) (G : p_GT) (hG : p_ok G) (S : PS) (a0 : Nat) (a1 : Int32) (post : PS → Prop) (sz : Nat) (hf : f_X7_fillKeys S a0 a1 post) : p_Mv l D cy G S sz yX7_fillKeys (Cond.code yX7_fillKeys cX7_fillKeys 3 none :: wG) rm_X7_fillKeys [.ref a0, .int a1] 0 0 post := by
  refine q_start hG (Qc := fun A => va_Qv post (p_Post D cy A) A) mf_X7_fillKeys (Nat.le_of_ble_eq_true rfl) (own := RX7) rfl ?_
  intro p e s m below meth c A X hr hlk hnm ls hl hH
  have hx := X.1.1
  have hb := X.1.2.1
  replace hl : lv_has ls 3 [(0, .ref a0), (1, .int a1)] := hl
  obtain ⟨H, hHe⟩ : ∃ H, H = s.heap := ⟨_, rfl⟩
  obtain ⟨locs, hlo⟩ : ∃ locs : List Loc, locs = [] := ⟨_, rfl⟩
  rw [← hHe, ← hlo] at hH
  show W p l e rm_X7_fillKeys s m [.ref a0, .int a1].toArray below meth c s.heap [] 0 0 _ _
  rw [← hHe, ← hlo]
  have hJ23 : ∀ (S : PS) (l0 : Nat) (l1 : Int32), f_X7_fillKeys_J23 post S l0 l1 → ∀ (H : Heap) (locs : List Loc) (ls : Array Slot), p_H D cy S A s H locs → lv_has ls 3 [(0, .ref l0), (1, .int l1)] → W p l e rm_X7_fillKeys s m [.ref a0, .int a1].toArray below meth c H locs 0 0 (MQ below (va_Qv post (p_Post D cy A) A) [.ref a0, .int a1].toArray s 0 0 A) (F0 m 23 ls []) := by
    intro S l0 l1 hf H locs ls hH hl
    have hL25 : ∀ (n25 : Nat) (S : PS) (l0 : Nat) (l1 : Int32) (l2 : Int32), f_X7_fillKeys_L25 post n25 S l0 l1 l2 → ∀ (H : Heap) (locs : List Loc) (ls : Array Slot), p_H D cy S A s H locs → lv_has ls 3 [(0, .ref l0), (1, .int l1), (2, .int l2)] → W p l e rm_X7_fillKeys s m [.ref a0, .int a1].toArray below meth c H locs 0 0 (MQ below (va_Qv post (p_Post D cy A) A) [.ref a0, .int a1].toArray s 0 0 A) (F0 m 25 ls []) := by
      intro n25
      induction n25 with
      | zero => intro S l0 l1 l2 hf; exact hf.elim
      | succ n25 ih25 =>
        intro S l0 l1 l2 hf H locs ls hH hl
        refine lv_iload_n hx hb dX7_fillKeys_25 rfl (lv_at hl 2 rfl) ?_
        refine lv_aload_n hx hb dX7_fillKeys_26 rfl (lv_at hl 0 rfl) ?_
        refine q_getR (T := TX7) (N := 12) X hH hf iw_X7 rfl (by decide) tw_253 (fun _ h => h) dX7_fillKeys_27 (fun v1 hf => ?_)
        refine q_getIN (T := TX6) (N := 6) X hH hf iw_X6 rfl (by decide) (List.mem_of_getElem? (i := 0) rfl) (fun _ h => h) dX7_fillKeys_30 (fun v2 hf => ?_)
        refine lv_icmp_ge (tgt := 63) hx hb dX7_fillKeys_33 (by decide) (fun c3 => ?_) (fun c3 => ?_)
        · have hf := (if_pos c3).mp hf
          exact q_retV X hH hr hlk hf (Nat.zero_le _) (Nat.zero_le _) dX7_fillKeys_63
        · have hf := (if_neg c3).mp hf
          refine lv_iload_n hx hb dX7_fillKeys_36 rfl (lv_at hl 2 rfl) ?_
          refine lv_aload_n hx hb dX7_fillKeys_37 rfl (lv_at hl 0 rfl) ?_
          refine q_getR (T := TX7) (N := 12) X hH hf iw_X7 rfl (by decide) tw_263 (fun _ h => h) dX7_fillKeys_38 (fun v4 hf => ?_)
          refine q_alen X hH hf dX7_fillKeys_41 (fun v5 hf => ?_)
          refine lv_icmp_ge (tgt := 63) hx hb dX7_fillKeys_42 (by decide) (fun c6 => ?_) (fun c6 => ?_)
          · have hf := (if_pos c6).mp hf
            exact q_retV X hH hr hlk hf (Nat.zero_le _) (Nat.zero_le _) dX7_fillKeys_63
          · have hf := (if_neg c6).mp hf
            refine lv_aload_n hx hb dX7_fillKeys_45 rfl (lv_at hl 0 rfl) ?_
            refine q_getR (T := TX7) (N := 12) X hH hf iw_X7 rfl (by decide) tw_263 (fun _ h => h) dX7_fillKeys_46 (fun v7 hf => ?_)
            refine lv_iload_n hx hb dX7_fillKeys_49 rfl (lv_at hl 2 rfl) ?_
            refine lv_aload_n hx hb dX7_fillKeys_50 rfl (lv_at hl 0 rfl) ?_
            refine lv_iload_n hx hb dX7_fillKeys_51 rfl (lv_at hl 1 rfl) ?_
            refine lv_iload_n hx hb dX7_fillKeys_52 rfl (lv_at hl 2 rfl) ?_
            obtain ⟨hb1, hb2, hf⟩ := hf
            refine q_backI0 X hH (q_runV [.int l1, .int l2] [.int l2, .ref v7] X hH hl (c_X7_keyOf l D cy G X.2.2.2.1 S l0 l1 l2 _ _ hf) mf_X7_keyOf mv_X7_keyOf tw_628 ⟨Nat.le_of_ble_eq_true rfl, Nat.le_of_ble_eq_true rfl⟩ hb1 hb2 (T := TX7) (N := 12) rfl rfl (Nat.le_of_ble_eq_true rfl) dX7_fillKeys_53 ⟨Nat.le_of_ble_eq_true rfl, Nat.le_of_ble_eq_true rfl⟩) (fun v9 S8 hf H locs hH => ?_)
            refine q_iast X hH hf dX7_fillKeys_56 (fun S10 hf H locs hH => ?_)
            refine lv_iinc (v := l2 + 1) (lv' := [(2, .int (l2 + 1)), (0, .ref l0), (1, .int l1)]) hx hb dX7_fillKeys_57 hl (k := 2) rfl rfl (by decide) rfl (fun ls hl => ?_)
            refine lv_goto (tgt := 25) hx hb dX7_fillKeys_60 (by decide) ?_
            exact ih25 S10 l0 l1 (l2 + 1) hf H locs ls hH (lv_sub hl [1, 2, 0] rfl)
    refine lv_iconst (v := 0) hx hb dX7_fillKeys_23 (by decide) ?_
    refine lv_istore_n (lv' := [(2, .int 0), (0, .ref l0), (1, .int l1)]) hx hb dX7_fillKeys_24 rfl hl (by decide) rfl (fun ls hl => ?_)
    exact hL25 4096 S l0 l1 0 hf H locs ls hH (lv_sub hl [1, 2, 0] rfl)
  refine lv_iload_n hx hb dX7_fillKeys_0 rfl (lv_at hl 1 rfl) ?_
  refine lv_iconst (v := 3) hx hb dX7_fillKeys_1 (by decide) ?_
  refine lv_icmp_ne (tgt := 23) hx hb dX7_fillKeys_2 (by decide) (fun c1 => ?_) (fun c1 => ?_)
  · have hf := (if_neg c1).mp hf
    exact hJ23 S a0 a1 hf H locs ls hH hl
  · have hf := (if_pos c1).mp hf
    refine lv_aload_n hx hb dX7_fillKeys_5 rfl (lv_at hl 0 rfl) ?_
    obtain ⟨hb1, hb2, hf⟩ := hf
    refine q_backI0 X hH (q_runV [] [] X hH hl (c_X7_isTooSmall l D cy G X.2.2.2.1 S a0 _ _ hf) mf_X7_isTooSmall mv_X7_isTooSmall tw_624 ⟨Nat.le_of_ble_eq_true rfl, Nat.le_of_ble_eq_true rfl⟩ hb1 hb2 (T := TX7) (N := 12) rfl rfl (Nat.le_of_ble_eq_true rfl) dX7_fillKeys_6 ⟨Nat.le_of_ble_eq_true rfl, Nat.le_of_ble_eq_true rfl⟩) (fun v3 S2 hf H locs hH => ?_)
    refine lv_if_ne (tgt := 23) hx hb dX7_fillKeys_9 (by decide) (fun c4 => ?_) (fun c4 => ?_)
    · have hf := (if_neg c4).mp hf
      exact hJ23 S2 a0 a1 hf H locs ls hH hl
    · have hf := (if_pos c4).mp hf
      refine lv_aload_n hx hb dX7_fillKeys_12 rfl (lv_at hl 0 rfl) ?_
      refine q_getR (T := TX7) (N := 12) X hH hf iw_X7 rfl (by decide) tw_258 (fun _ h => h) dX7_fillKeys_13 (fun v5 hf => ?_)
      refine lv_aload_n hx hb dX7_fillKeys_16 rfl (lv_at hl 0 rfl) ?_
      refine q_getR (T := TX7) (N := 12) X hH hf iw_X7 rfl (by decide) tw_253 (fun _ h => h) dX7_fillKeys_17 (fun v6 hf => ?_)
      obtain ⟨hb1, hb2, hf⟩ := hf
      refine q_backV0 X hH (q_runV [.ref v6] [] X hH hl (c_X0_measure l D cy G X.2.2.2.1 S2 v5 v6 _ _ hf) mf_X0_measure mv_X0_measure tw_540 ⟨Nat.le_of_ble_eq_true rfl, Nat.le_of_ble_eq_true rfl⟩ hb1 hb2 (T := TX0) (N := 2) rfl rfl (Nat.le_of_ble_eq_true rfl) dX7_fillKeys_20 ⟨Nat.le_of_ble_eq_true rfl, Nat.le_of_ble_eq_true rfl⟩) (fun S7 hf H locs hH => ?_)
      exact hJ23 S7 a0 a1 hf H locs ls hH hl
