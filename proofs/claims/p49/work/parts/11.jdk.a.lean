-- J5_init_d00df
def f_J5_init_d00df (S : PS) (a0 : Nat) (a1 : Int32) (bc bs : Nat) (post : PS → Prop) : Prop :=
  if (1 : Int32) = 0 then
    False
  else
    nA S 1 a1 bc bs fun q2 S3 bc4 bs5 => (
    pV S3 a0 1 0 (.ref q2) fun S6 => (
    pV S6 a0 1 1 (.int 0) fun S7 => (
    post S7)))
abbrev rm_J5_init_d00df (mc ms : Nat) : Room := { frames := 1, cells := mc, slots := ms, locals := 20 }
set_option maxHeartbeats 4000000 in
set_option maxRecDepth 100000 in
theorem c_J5_init_d00df (l : Launch) (D : va_G) (cy : Nat → ClassId) (G : p_GT) (hG : p_ok G) (hGC : ∀ (A : Nat → Prop) (U : State) (H : Heap), G A U H → gC A U H) (S : PS) (a0 : Nat) (a1 : Int32) (mc ms : Nat) (post : PS → Prop) (sz : Nat) (hf : f_J5_init_d00df S a0 a1 mc ms post) : p_Mv l D cy G S sz yJ5_init_d00df (Cond.code yJ5_init_d00df cJ5_init_d00df 2 none :: wG) (rm_J5_init_d00df mc ms) [.ref a0, .int a1] mc ms post := by
  refine q_start hG (Qc := fun A => va_Qv post (p_Post D cy A) A) mf_J5_init_d00df (Nat.le_of_ble_eq_true rfl) (own := RJ5) rfl ?_
  intro p e s m below meth c A X hr hlk hnm ls hl hH
  have hx := X.1.1
  have hb := X.1.2.1
  replace hl : lv_has ls 2 [(0, .ref a0), (1, .int a1)] := hl
  have main : ∀ (H : Heap) (locs : List Loc) (ls : Array Slot) (cells slots bc bs : Nat), f_J5_init_d00df S a0 a1 bc bs post → p_H D cy S A s H locs → lv_has ls 2 [(0, .ref a0), (1, .int a1)] → cells + bc ≤ mc ∧ slots + bs ≤ ms → W p l e (rm_J5_init_d00df mc ms) s m [.ref a0, .int a1].toArray below meth c H locs cells slots (MQ below (va_Qv post (p_Post D cy A) A) [.ref a0, .int a1].toArray s mc ms A) (F0 m 0 ls []) := by
    intro H locs ls cells slots bc bs hf hH hl hB
    refine lv_aload_n hx hb dJ5_init_d00df_0 rfl (lv_at hl 0 rfl) ?_
    refine q_objInit X hl tw_185 tw_64 tw_o ⟨Nat.le_of_ble_eq_true rfl, Nat.le_of_ble_eq_true rfl⟩ (Nat.le_of_ble_eq_true rfl) dJ5_init_d00df_1 ?_
    refine q_getsC X hH (hGC _ _ _ X.2.2.2.2) tw_186 dJ5_init_d00df_4 ?_
    refine lv_if_eq (tgt := 25) hx hb dJ5_init_d00df_7 (by decide) (fun c1 => ?_) (fun c1 => ?_)
    · have hf := (if_pos c1).mp hf
      exact hf.elim
    · have hf := (if_neg c1).mp hf
      refine lv_aload_n hx hb dJ5_init_d00df_10 rfl (lv_at hl 0 rfl) ?_
      refine lv_iload_n hx hb dJ5_init_d00df_11 rfl (lv_at hl 1 rfl) ?_
      refine q_newa (t := 1) (atype := .byte) (ty := .byte) X hH hB hf tw_209 rfl rfl (fun C h => by cases h) (fun N cA => rfl) (by decide) dJ5_init_d00df_12 (fun q2 S3 bc4 bs5 hf H locs cells slots hH hB => ?_)
      refine q_putV (T := TJ4) (N := 4) (ty0 := tyJ4) (ty := tyJ4 0) X hH hf iw_J4 tyJ4_ok nmJ4 rfl (by decide) tw_195 (fun _ h => h) rfl (tyJ4_ok 0 (by decide)) rfl rfl dJ5_init_d00df_14 (fun S6 hf H locs hH => ?_)
      refine lv_aload_n hx hb dJ5_init_d00df_17 rfl (lv_at hl 0 rfl) ?_
      refine lv_iconst (v := 0) hx hb dJ5_init_d00df_18 (by decide) ?_
      refine q_putV (T := TJ4) (N := 4) (ty0 := tyJ4) (ty := tyJ4 1) X hH hf iw_J4 tyJ4_ok nmJ4 rfl (by decide) tw_196 (fun _ h => h) rfl (tyJ4_ok 1 (by decide)) rfl rfl dJ5_init_d00df_19 (fun S7 hf H locs hH => ?_)
      refine lv_goto (tgt := 38) hx hb dJ5_init_d00df_22 (by decide) ?_
      exact q_retV X hH hr hlk hf (Nat.le_trans (Nat.le_add_right _ _) hB.1) (Nat.le_trans (Nat.le_add_right _ _) hB.2) dJ5_init_d00df_38
  exact main s.heap [] ls 0 0 mc ms hf hH hl ⟨by omega, by omega⟩
-- J5_length_8abf5
def f_J5_length_8abf5 (S : PS) (a0 : Nat) (post : Int32 → PS → Prop) : Prop :=
  gI S a0 1 3 fun v1 => (
  post v1 S)
abbrev rm_J5_length_8abf5 : Room := { frames := 0, cells := 0, slots := 0, locals := 0 }
set_option maxHeartbeats 4000000 in
set_option maxRecDepth 100000 in
theorem c_J5_length_8abf5 (l : Launch) (D : va_G) (cy : Nat → ClassId) (G : p_GT) (hG : p_ok G) (S : PS) (a0 : Nat) (post : Int32 → PS → Prop) (sz : Nat) (hf : f_J5_length_8abf5 S a0 post) : p_Mi l D cy G S sz yJ5_length_8abf5 (Cond.code yJ5_length_8abf5 cJ5_length_8abf5 1 (some .int) :: wG) rm_J5_length_8abf5 [.ref a0] 0 0 post := by
  refine q_start hG (Qc := fun A => va_Qi post (p_Post D cy A) A) mf_J5_length_8abf5 (Nat.le_of_ble_eq_true rfl) (own := RJ5) rfl ?_
  intro p e s m below meth c A X hr hlk hnm ls hl hH
  have hx := X.1.1
  have hb := X.1.2.1
  replace hl : lv_has ls 1 [(0, .ref a0)] := hl
  obtain ⟨H, hHe⟩ : ∃ H, H = s.heap := ⟨_, rfl⟩
  obtain ⟨locs, hlo⟩ : ∃ locs : List Loc, locs = [] := ⟨_, rfl⟩
  rw [← hHe, ← hlo] at hH
  show W p l e rm_J5_length_8abf5 s m [.ref a0].toArray below meth c s.heap [] 0 0 _ _
  rw [← hHe, ← hlo]
  refine lv_aload_n hx hb dJ5_length_8abf5_0 rfl (lv_at hl 0 rfl) ?_
  refine q_getI (T := TJ4) (N := 4) X hH hf iw_J4 rfl (by decide) tw_199 (fun _ h => h) dJ5_length_8abf5_1 (fun v1 hf => ?_)
  exact q_retI X hH hr hlk hf (Nat.zero_le _) (Nat.zero_le _) dJ5_length_8abf5_4
-- J5_isLatin1_aae02
def f_J5_isLatin1_aae02 (S : PS) (a0 : Nat) (post : Int32 → PS → Prop) : Prop :=
  if (1 : Int32) = 0 then
    nZ .boolean 0 (post 0 S)
  else
    gI S a0 1 1 fun v2 => (
    if v2 = 0 then
      nZ .boolean 1 (post 1 S)
    else
      nZ .boolean 0 (post 0 S))
abbrev rm_J5_isLatin1_aae02 : Room := { frames := 0, cells := 0, slots := 0, locals := 0 }
set_option maxHeartbeats 4000000 in
set_option maxRecDepth 100000 in
theorem c_J5_isLatin1_aae02 (l : Launch) (D : va_G) (cy : Nat → ClassId) (G : p_GT) (hG : p_ok G) (hGC : ∀ (A : Nat → Prop) (U : State) (H : Heap), G A U H → gC A U H) (S : PS) (a0 : Nat) (post : Int32 → PS → Prop) (sz : Nat) (hf : f_J5_isLatin1_aae02 S a0 post) : p_Mi l D cy G S sz yJ5_isLatin1_aae02 (Cond.code yJ5_isLatin1_aae02 cJ5_isLatin1_aae02 1 (some .boolean) :: wG) rm_J5_isLatin1_aae02 [.ref a0] 0 0 post := by
  refine q_start hG (Qc := fun A => va_Qi post (p_Post D cy A) A) mf_J5_isLatin1_aae02 (Nat.le_of_ble_eq_true rfl) (own := RJ5) rfl ?_
  intro p e s m below meth c A X hr hlk hnm ls hl hH
  have hx := X.1.1
  have hb := X.1.2.1
  replace hl : lv_has ls 1 [(0, .ref a0)] := hl
  obtain ⟨H, hHe⟩ : ∃ H, H = s.heap := ⟨_, rfl⟩
  obtain ⟨locs, hlo⟩ : ∃ locs : List Loc, locs = [] := ⟨_, rfl⟩
  rw [← hHe, ← hlo] at hH
  show W p l e rm_J5_isLatin1_aae02 s m [.ref a0].toArray below meth c s.heap [] 0 0 _ _
  rw [← hHe, ← hlo]
  refine q_getsC X hH (hGC _ _ _ X.2.2.2.2) tw_186 dJ5_isLatin1_aae02_0 ?_
  refine lv_if_eq (tgt := 17) hx hb dJ5_isLatin1_aae02_3 (by decide) (fun c1 => ?_) (fun c1 => ?_)
  · have hf := (if_pos c1).mp hf
    refine lv_iconst (v := 0) hx hb dJ5_isLatin1_aae02_17 (by decide) ?_
    exact q_retZ X hH hr hlk hf (Nat.zero_le _) (Nat.zero_le _) dJ5_isLatin1_aae02_18
  · have hf := (if_neg c1).mp hf
    refine lv_aload_n hx hb dJ5_isLatin1_aae02_6 rfl (lv_at hl 0 rfl) ?_
    refine q_getI (T := TJ4) (N := 4) X hH hf iw_J4 rfl (by decide) tw_196 (fun _ h => h) dJ5_isLatin1_aae02_7 (fun v2 hf => ?_)
    refine lv_if_ne (tgt := 17) hx hb dJ5_isLatin1_aae02_10 (by decide) (fun c3 => ?_) (fun c3 => ?_)
    · have hf := (if_neg c3).mp hf
      refine lv_iconst (v := 0) hx hb dJ5_isLatin1_aae02_17 (by decide) ?_
      exact q_retZ X hH hr hlk hf (Nat.zero_le _) (Nat.zero_le _) dJ5_isLatin1_aae02_18
    · have hf := (if_pos c3).mp hf
      refine lv_iconst (v := 1) hx hb dJ5_isLatin1_aae02_13 (by decide) ?_
      refine lv_goto (tgt := 18) hx hb dJ5_isLatin1_aae02_14 (by decide) ?_
      exact q_retZ X hH hr hlk hf (Nat.zero_le _) (Nat.zero_le _) dJ5_isLatin1_aae02_18
-- J6_getChars_ba4f3
def f_J6_getChars_ba4f3_J104 (post : Int32 → PS → Prop) (S : PS) (l2 : Nat) (l5 : Int32) (l6 : Int32) : Prop :=
  if l6 = 0 then
    post l5 S
  else
    sI S l2 1 (l5 + (-1)) (vp_nar .byte 45) fun S2 => (
    post (l5 + (-1)) S2)
def f_J6_getChars_ba4f3_J72 (post : Int32 → PS → Prop) (S : PS) (l0 : Int32) (l2 : Nat) (l5 : Int32) (l6 : Int32) : Prop :=
  vp_in (-l0) 100 ∧ (
  sI S l2 1 (l5 + (-1)) (vp_nar .byte (dgO (-l0).toNatClampNeg)) fun S1 => (
  if (-9) ≤ l0 then
    f_J6_getChars_ba4f3_J104 post S1 l2 (l5 + (-1)) l6
  else
    vp_in (-l0) 100 ∧ (
    sI S1 l2 1 ((l5 + (-1)) + (-1)) (vp_nar .byte (dgT (-l0).toNatClampNeg)) fun S3 => (
    f_J6_getChars_ba4f3_J104 post S3 l2 ((l5 + (-1)) + (-1)) l6))))
def f_J6_getChars_ba4f3_L22 (post : Int32 → PS → Prop) : Nat → PS → Int32 → Nat → Int32 → Int32 → Prop
  | 0, _, _, _, _, _ => False
  | n + 1, S, l0, l2, l5, l6 =>
  if (-100) < l0 then
    f_J6_getChars_ba4f3_J72 post S l0 l2 l5 l6
  else
    (¬ (100 : Int32) = 0) ∧ (
    vp_in (((l0 / 100) * 100) - l0) 100 ∧ (
    sI S l2 1 (l5 + (-1)) (vp_nar .byte (dgO (((l0 / 100) * 100) - l0).toNatClampNeg)) fun S2 => (
    vp_in (((l0 / 100) * 100) - l0) 100 ∧ (
    sI S2 l2 1 ((l5 + (-1)) + (-1)) (vp_nar .byte (dgT (((l0 / 100) * 100) - l0).toNatClampNeg)) fun S3 => (
    (f_J6_getChars_ba4f3_L22 post n) S3 (l0 / 100) l2 ((l5 + (-1)) + (-1)) l6)))))
def f_J6_getChars_ba4f3_J12 (post : Int32 → PS → Prop) (S : PS) (l0 : Int32) (l2 : Nat) (l5 : Int32) (t0 : Int32) : Prop :=
  if t0 = 0 then
    f_J6_getChars_ba4f3_L22 post 4096 S (-l0) l2 l5 t0
  else
    f_J6_getChars_ba4f3_L22 post 4096 S l0 l2 l5 t0
def f_J6_getChars_ba4f3 (S : PS) (a0 : Int32) (a1 : Int32) (a2 : Nat) (post : Int32 → PS → Prop) : Prop :=
  if 0 ≤ a0 then
    f_J6_getChars_ba4f3_J12 post S a0 a2 a1 0
  else
    f_J6_getChars_ba4f3_J12 post S a0 a2 a1 1
abbrev rm_J6_getChars_ba4f3 : Room := { frames := 0, cells := 0, slots := 0, locals := 0 }
set_option maxHeartbeats 4000000 in
set_option maxRecDepth 100000 in
theorem c_J6_getChars_ba4f3 (l : Launch) (D : va_G) (cy : Nat → ClassId) (G : p_GT) (hG : p_ok G) (dT dO : Nat) (hGT : ∀ (A : Nat → Prop) (U : State) (H : Heap), G A U H → gT dT dO A U H) (S : PS) (a0 : Int32) (a1 : Int32) (a2 : Nat) (post : Int32 → PS → Prop) (sz : Nat) (hf : f_J6_getChars_ba4f3 S a0 a1 a2 post) : p_Mi l D cy G S sz yJ6_getChars_ba4f3 (Cond.code yJ6_getChars_ba4f3 cJ6_getChars_ba4f3 7 (some .int) :: wG) rm_J6_getChars_ba4f3 [.int a0, .int a1, .ref a2] 0 0 post := by
  refine q_start hG (Qc := fun A => va_Qi post (p_Post D cy A) A) mf_J6_getChars_ba4f3 (Nat.le_of_ble_eq_true rfl) (own := RJ6) rfl ?_
  intro p e s m below meth c A X hr hlk hnm ls hl hH
  have hx := X.1.1
  have hb := X.1.2.1
  replace hl : lv_has ls 7 [(0, .int a0), (1, .int a1), (2, .ref a2)] := hl
  obtain ⟨H, hHe⟩ : ∃ H, H = s.heap := ⟨_, rfl⟩
  obtain ⟨locs, hlo⟩ : ∃ locs : List Loc, locs = [] := ⟨_, rfl⟩
  rw [← hHe, ← hlo] at hH
  show W p l e rm_J6_getChars_ba4f3 s m [.int a0, .int a1, .ref a2].toArray below meth c s.heap [] 0 0 _ _
  rw [← hHe, ← hlo]
  have hJ12 : ∀ (S : PS) (l0 : Int32) (l2 : Nat) (l5 : Int32) (t0 : Int32), f_J6_getChars_ba4f3_J12 post S l0 l2 l5 t0 → ∀ (H : Heap) (locs : List Loc) (ls : Array Slot), p_H D cy S A s H locs → lv_has ls 7 [(0, .int l0), (2, .ref l2), (5, .int l5)] → W p l e rm_J6_getChars_ba4f3 s m [.int a0, .int a1, .ref a2].toArray below meth c H locs 0 0 (MQ below (va_Qi post (p_Post D cy A) A) [.int a0, .int a1, .ref a2].toArray s 0 0 A) (F0 m 12 ls [.int t0]) := by
    intro S l0 l2 l5 t0 hf H locs ls hH hl
    have hL22 : ∀ (n22 : Nat) (S : PS) (l0 : Int32) (l2 : Nat) (l5 : Int32) (l6 : Int32), f_J6_getChars_ba4f3_L22 post n22 S l0 l2 l5 l6 → ∀ (H : Heap) (locs : List Loc) (ls : Array Slot), p_H D cy S A s H locs → lv_has ls 7 [(0, .int l0), (2, .ref l2), (5, .int l5), (6, .int l6)] → W p l e rm_J6_getChars_ba4f3 s m [.int a0, .int a1, .ref a2].toArray below meth c H locs 0 0 (MQ below (va_Qi post (p_Post D cy A) A) [.int a0, .int a1, .ref a2].toArray s 0 0 A) (F0 m 22 ls []) := by
      intro n22
      induction n22 with
      | zero => intro S l0 l2 l5 l6 hf; exact hf.elim
      | succ n22 ih22 =>
        intro S l0 l2 l5 l6 hf H locs ls hH hl
        have hJ72 : ∀ (S : PS) (l0 : Int32) (l2 : Nat) (l5 : Int32) (l6 : Int32), f_J6_getChars_ba4f3_J72 post S l0 l2 l5 l6 → ∀ (H : Heap) (locs : List Loc) (ls : Array Slot), p_H D cy S A s H locs → lv_has ls 7 [(0, .int l0), (2, .ref l2), (5, .int l5), (6, .int l6)] → W p l e rm_J6_getChars_ba4f3 s m [.int a0, .int a1, .ref a2].toArray below meth c H locs 0 0 (MQ below (va_Qi post (p_Post D cy A) A) [.int a0, .int a1, .ref a2].toArray s 0 0 A) (F0 m 72 ls []) := by
          intro S l0 l2 l5 l6 hf H locs ls hH hl
          have hJ104 : ∀ (S : PS) (l2 : Nat) (l5 : Int32) (l6 : Int32), f_J6_getChars_ba4f3_J104 post S l2 l5 l6 → ∀ (H : Heap) (locs : List Loc) (ls : Array Slot), p_H D cy S A s H locs → lv_has ls 7 [(2, .ref l2), (5, .int l5), (6, .int l6)] → W p l e rm_J6_getChars_ba4f3 s m [.int a0, .int a1, .ref a2].toArray below meth c H locs 0 0 (MQ below (va_Qi post (p_Post D cy A) A) [.int a0, .int a1, .ref a2].toArray s 0 0 A) (F0 m 104 ls []) := by
            intro S l2 l5 l6 hf H locs ls hH hl
            refine lv_iload hx hb dJ6_getChars_ba4f3_104 (lv_at hl 2 rfl) ?_
            refine lv_if_eq (tgt := 118) hx hb dJ6_getChars_ba4f3_106 (by decide) (fun c1 => ?_) (fun c1 => ?_)
            · have hf := (if_pos c1).mp hf
              refine lv_iload hx hb dJ6_getChars_ba4f3_118 (lv_at hl 1 rfl) ?_
              exact q_retI X hH hr hlk hf (Nat.zero_le _) (Nat.zero_le _) dJ6_getChars_ba4f3_120
            · have hf := (if_neg c1).mp hf
              refine lv_aload_n hx hb dJ6_getChars_ba4f3_109 rfl (lv_at hl 0 rfl) ?_
              refine lv_iinc (v := l5 + (-1)) (lv' := [(5, .int (l5 + (-1))), (2, .ref l2), (6, .int l6)]) hx hb dJ6_getChars_ba4f3_110 hl (k := 1) rfl rfl (by decide) rfl (fun ls hl => ?_)
              refine lv_iload hx hb dJ6_getChars_ba4f3_113 (lv_at hl 0 rfl) ?_
              refine lv_bipush (v := 45) hx hb dJ6_getChars_ba4f3_115 (by decide) ?_
              refine q_bast X hH hf dJ6_getChars_ba4f3_117 (fun S2 hf H locs hH => ?_)
              refine lv_iload hx hb dJ6_getChars_ba4f3_118 (lv_at hl 0 rfl) ?_
              exact q_retI X hH hr hlk hf (Nat.zero_le _) (Nat.zero_le _) dJ6_getChars_ba4f3_120
          refine lv_aload_n hx hb dJ6_getChars_ba4f3_72 rfl (lv_at hl 1 rfl) ?_
          refine lv_iinc (v := l5 + (-1)) (lv' := [(5, .int (l5 + (-1))), (0, .int l0), (2, .ref l2), (6, .int l6)]) hx hb dJ6_getChars_ba4f3_73 hl (k := 2) rfl rfl (by decide) rfl (fun ls hl => ?_)
          refine lv_iload hx hb dJ6_getChars_ba4f3_76 (lv_at hl 0 rfl) ?_
          refine q_getsT (t := dO) X hH (hGT _ _ _ X.2.2.2.2).2.1 tw_802 dJ6_getChars_ba4f3_78 ?_
          refine lv_iload_n hx hb dJ6_getChars_ba4f3_81 rfl (lv_at hl 1 rfl) ?_
          refine lv_ineg hx hb dJ6_getChars_ba4f3_82 ?_
          refine q_tald (f := dgO) X hH (hGT _ _ _ X.2.2.2.2).2.2 hf.1 dJ6_getChars_ba4f3_83 ?_
          have hf := hf.2
          refine q_bast X hH hf dJ6_getChars_ba4f3_84 (fun S1 hf H locs hH => ?_)
          refine lv_iload_n hx hb dJ6_getChars_ba4f3_85 rfl (lv_at hl 1 rfl) ?_
          refine lv_bipush (v := (-9)) hx hb dJ6_getChars_ba4f3_86 (by decide) ?_
          refine lv_icmp_ge (tgt := 104) hx hb dJ6_getChars_ba4f3_88 (by decide) (fun c2 => ?_) (fun c2 => ?_)
          · have hf := (if_pos c2).mp hf
            exact hJ104 S1 l2 (l5 + (-1)) l6 hf H locs ls hH (lv_sub hl [2, 0, 3] rfl)
          · have hf := (if_neg c2).mp hf
            refine lv_aload_n hx hb dJ6_getChars_ba4f3_91 rfl (lv_at hl 2 rfl) ?_
            refine lv_iinc (v := (l5 + (-1)) + (-1)) (lv' := [(5, .int ((l5 + (-1)) + (-1))), (0, .int l0), (2, .ref l2), (6, .int l6)]) hx hb dJ6_getChars_ba4f3_92 hl (k := 0) rfl rfl (by decide) rfl (fun ls hl => ?_)
            refine lv_iload hx hb dJ6_getChars_ba4f3_95 (lv_at hl 0 rfl) ?_
            refine q_getsT (t := dT) X hH (hGT _ _ _ X.2.2.2.2).1.1 tw_804 dJ6_getChars_ba4f3_97 ?_
            refine lv_iload_n hx hb dJ6_getChars_ba4f3_100 rfl (lv_at hl 1 rfl) ?_
            refine lv_ineg hx hb dJ6_getChars_ba4f3_101 ?_
            refine q_tald (f := dgT) X hH (hGT _ _ _ X.2.2.2.2).1.2 hf.1 dJ6_getChars_ba4f3_102 ?_
            have hf := hf.2
            refine q_bast X hH hf dJ6_getChars_ba4f3_103 (fun S3 hf H locs hH => ?_)
            exact hJ104 S3 l2 ((l5 + (-1)) + (-1)) l6 hf H locs ls hH (lv_sub hl [2, 0, 3] rfl)
        refine lv_iload_n hx hb dJ6_getChars_ba4f3_22 rfl (lv_at hl 0 rfl) ?_
        refine lv_bipush (v := (-100)) hx hb dJ6_getChars_ba4f3_23 (by decide) ?_
        refine lv_icmp_gt (tgt := 72) hx hb dJ6_getChars_ba4f3_25 (by decide) (fun c1 => ?_) (fun c1 => ?_)
        · have hf := (if_pos c1).mp hf
          exact hJ72 S l0 l2 l5 l6 hf H locs ls hH hl
        · have hf := (if_neg c1).mp hf
          refine lv_iload_n hx hb dJ6_getChars_ba4f3_28 rfl (lv_at hl 0 rfl) ?_
          refine lv_bipush (v := 100) hx hb dJ6_getChars_ba4f3_29 (by decide) ?_
          refine lv_idiv hx hb dJ6_getChars_ba4f3_31 hf.1 ?_
          have hf := hf.2
          refine lv_istore_n (lv' := [(3, .int (l0 / 100)), (0, .int l0), (2, .ref l2), (5, .int l5), (6, .int l6)]) hx hb dJ6_getChars_ba4f3_32 rfl hl (by decide) rfl (fun ls hl => ?_)
          refine lv_iload_n hx hb dJ6_getChars_ba4f3_33 rfl (lv_at hl 0 rfl) ?_
          refine lv_bipush (v := 100) hx hb dJ6_getChars_ba4f3_34 (by decide) ?_
          refine lv_imul hx hb dJ6_getChars_ba4f3_36 ?_
          refine lv_iload_n hx hb dJ6_getChars_ba4f3_37 rfl (lv_at hl 1 rfl) ?_
          refine lv_isub hx hb dJ6_getChars_ba4f3_38 ?_
          refine lv_istore (lv' := [(4, .int (((l0 / 100) * 100) - l0)), (3, .int (l0 / 100)), (0, .int l0), (2, .ref l2), (5, .int l5), (6, .int l6)]) hx hb dJ6_getChars_ba4f3_39 hl (by decide) rfl (fun ls hl => ?_)
          refine lv_iload_n hx hb dJ6_getChars_ba4f3_41 rfl (lv_at hl 1 rfl) ?_
          refine lv_istore_n (lv' := [(0, .int (l0 / 100)), (4, .int (((l0 / 100) * 100) - l0)), (3, .int (l0 / 100)), (2, .ref l2), (5, .int l5), (6, .int l6)]) hx hb dJ6_getChars_ba4f3_42 rfl hl (by decide) rfl (fun ls hl => ?_)
          refine lv_aload_n hx hb dJ6_getChars_ba4f3_43 rfl (lv_at hl 3 rfl) ?_
          refine lv_iinc (v := l5 + (-1)) (lv' := [(5, .int (l5 + (-1))), (0, .int (l0 / 100)), (4, .int (((l0 / 100) * 100) - l0)), (3, .int (l0 / 100)), (2, .ref l2), (6, .int l6)]) hx hb dJ6_getChars_ba4f3_44 hl (k := 4) rfl rfl (by decide) rfl (fun ls hl => ?_)
          refine lv_iload hx hb dJ6_getChars_ba4f3_47 (lv_at hl 0 rfl) ?_
          refine q_getsT (t := dO) X hH (hGT _ _ _ X.2.2.2.2).2.1 tw_802 dJ6_getChars_ba4f3_49 ?_
          refine lv_iload hx hb dJ6_getChars_ba4f3_52 (lv_at hl 2 rfl) ?_
          refine q_tald (f := dgO) X hH (hGT _ _ _ X.2.2.2.2).2.2 hf.1 dJ6_getChars_ba4f3_54 ?_
          have hf := hf.2
          refine q_bast X hH hf dJ6_getChars_ba4f3_55 (fun S2 hf H locs hH => ?_)
          refine lv_aload_n hx hb dJ6_getChars_ba4f3_56 rfl (lv_at hl 4 rfl) ?_
          refine lv_iinc (v := (l5 + (-1)) + (-1)) (lv' := [(5, .int ((l5 + (-1)) + (-1))), (0, .int (l0 / 100)), (4, .int (((l0 / 100) * 100) - l0)), (3, .int (l0 / 100)), (2, .ref l2), (6, .int l6)]) hx hb dJ6_getChars_ba4f3_57 hl (k := 0) rfl rfl (by decide) rfl (fun ls hl => ?_)
          refine lv_iload hx hb dJ6_getChars_ba4f3_60 (lv_at hl 0 rfl) ?_
          refine q_getsT (t := dT) X hH (hGT _ _ _ X.2.2.2.2).1.1 tw_804 dJ6_getChars_ba4f3_62 ?_
          refine lv_iload hx hb dJ6_getChars_ba4f3_65 (lv_at hl 2 rfl) ?_
          refine q_tald (f := dgT) X hH (hGT _ _ _ X.2.2.2.2).1.2 hf.1 dJ6_getChars_ba4f3_67 ?_
          have hf := hf.2
          refine q_bast X hH hf dJ6_getChars_ba4f3_68 (fun S3 hf H locs hH => ?_)
          refine lv_goto (tgt := 22) hx hb dJ6_getChars_ba4f3_69 (by decide) ?_
          exact ih22 S3 (l0 / 100) l2 ((l5 + (-1)) + (-1)) l6 hf H locs ls hH (lv_sub hl [1, 4, 0, 5] rfl)
    refine lv_istore (lv' := [(6, .int t0), (0, .int l0), (2, .ref l2), (5, .int l5)]) hx hb dJ6_getChars_ba4f3_12 hl (by decide) rfl (fun ls hl => ?_)
    refine lv_iload hx hb dJ6_getChars_ba4f3_14 (lv_at hl 0 rfl) ?_
    refine lv_if_ne (tgt := 22) hx hb dJ6_getChars_ba4f3_16 (by decide) (fun c1 => ?_) (fun c1 => ?_)
    · have hf := (if_neg c1).mp hf
      exact hL22 4096 S l0 l2 l5 t0 hf H locs ls hH (lv_sub hl [1, 2, 3, 0] rfl)
    · have hf := (if_pos c1).mp hf
      refine lv_iload_n hx hb dJ6_getChars_ba4f3_19 rfl (lv_at hl 1 rfl) ?_
      refine lv_ineg hx hb dJ6_getChars_ba4f3_20 ?_
      refine lv_istore_n (lv' := [(0, .int (-l0)), (6, .int t0), (2, .ref l2), (5, .int l5)]) hx hb dJ6_getChars_ba4f3_21 rfl hl (by decide) rfl (fun ls hl => ?_)
      exact hL22 4096 S (-l0) l2 l5 t0 hf H locs ls hH (lv_sub hl [0, 2, 3, 1] rfl)
  refine lv_iload_n hx hb dJ6_getChars_ba4f3_0 rfl (lv_at hl 1 rfl) ?_
  refine lv_istore (lv' := [(5, .int a1), (0, .int a0), (1, .int a1), (2, .ref a2)]) hx hb dJ6_getChars_ba4f3_1 hl (by decide) rfl (fun ls hl => ?_)
  refine lv_iload_n hx hb dJ6_getChars_ba4f3_3 rfl (lv_at hl 1 rfl) ?_
  refine lv_if_ge (tgt := 11) hx hb dJ6_getChars_ba4f3_4 (by decide) (fun c1 => ?_) (fun c1 => ?_)
  · have hf := (if_pos c1).mp hf
    refine lv_iconst (v := 0) hx hb dJ6_getChars_ba4f3_11 (by decide) ?_
    exact hJ12 S a0 a2 a1 0 hf H locs ls hH (lv_sub hl [1, 3, 0] rfl)
  · have hf := (if_neg c1).mp hf
    refine lv_iconst (v := 1) hx hb dJ6_getChars_ba4f3_7 (by decide) ?_
    refine lv_goto (tgt := 12) hx hb dJ6_getChars_ba4f3_8 (by decide) ?_
    exact hJ12 S a0 a2 a1 1 hf H locs ls hH (lv_sub hl [1, 3, 0] rfl)
-- J6_stringSize_0f7a4
def f_J6_stringSize_0f7a4_J42 (post : Int32 → PS → Prop) (S : PS) (l1 : Int32) : Prop :=
  post ((10 : Int32) + l1) S
def f_J6_stringSize_0f7a4_J27 (post : Int32 → PS → Prop) (S : PS) (l1 : Int32) (l3 : Int32) : Prop :=
  post (l3 + l1) S
def f_J6_stringSize_0f7a4_L16 (post : Int32 → PS → Prop) : Nat → PS → Int32 → Int32 → Int32 → Int32 → Prop
  | 0, _, _, _, _, _ => False
  | n + 1, S, l0, l1, l2, l3 =>
  if 10 ≤ l3 then
    f_J6_stringSize_0f7a4_J42 post S l1
  else
    if l0 ≤ l2 then
      (f_J6_stringSize_0f7a4_L16 post n) S l0 l1 ((10 : Int32) * l2) (l3 + 1)
    else
      f_J6_stringSize_0f7a4_J27 post S l1 l3
def f_J6_stringSize_0f7a4_J11 (post : Int32 → PS → Prop) (S : PS) (l0 : Int32) (l1 : Int32) : Prop :=
  f_J6_stringSize_0f7a4_L16 post 4096 S l0 l1 (-10) 1
def f_J6_stringSize_0f7a4 (S : PS) (a0 : Int32) (post : Int32 → PS → Prop) : Prop :=
  if a0 < 0 then
    f_J6_stringSize_0f7a4_J11 post S a0 1
  else
    f_J6_stringSize_0f7a4_J11 post S (-a0) 0
abbrev rm_J6_stringSize_0f7a4 : Room := { frames := 0, cells := 0, slots := 0, locals := 0 }
set_option maxHeartbeats 4000000 in
set_option maxRecDepth 100000 in
theorem c_J6_stringSize_0f7a4 (l : Launch) (D : va_G) (cy : Nat → ClassId) (G : p_GT) (hG : p_ok G) (S : PS) (a0 : Int32) (post : Int32 → PS → Prop) (sz : Nat) (hf : f_J6_stringSize_0f7a4 S a0 post) : p_Mi l D cy G S sz yJ6_stringSize_0f7a4 (Cond.code yJ6_stringSize_0f7a4 cJ6_stringSize_0f7a4 4 (some .int) :: wG) rm_J6_stringSize_0f7a4 [.int a0] 0 0 post := by
  refine q_start hG (Qc := fun A => va_Qi post (p_Post D cy A) A) mf_J6_stringSize_0f7a4 (Nat.le_of_ble_eq_true rfl) (own := RJ6) rfl ?_
  intro p e s m below meth c A X hr hlk hnm ls hl hH
  have hx := X.1.1
  have hb := X.1.2.1
  replace hl : lv_has ls 4 [(0, .int a0)] := hl
  obtain ⟨H, hHe⟩ : ∃ H, H = s.heap := ⟨_, rfl⟩
  obtain ⟨locs, hlo⟩ : ∃ locs : List Loc, locs = [] := ⟨_, rfl⟩
  rw [← hHe, ← hlo] at hH
  show W p l e rm_J6_stringSize_0f7a4 s m [.int a0].toArray below meth c s.heap [] 0 0 _ _
  rw [← hHe, ← hlo]
  have hJ11 : ∀ (S : PS) (l0 : Int32) (l1 : Int32), f_J6_stringSize_0f7a4_J11 post S l0 l1 → ∀ (H : Heap) (locs : List Loc) (ls : Array Slot), p_H D cy S A s H locs → lv_has ls 4 [(0, .int l0), (1, .int l1)] → W p l e rm_J6_stringSize_0f7a4 s m [.int a0].toArray below meth c H locs 0 0 (MQ below (va_Qi post (p_Post D cy A) A) [.int a0].toArray s 0 0 A) (F0 m 11 ls []) := by
    intro S l0 l1 hf H locs ls hH hl
    have hL16 : ∀ (n16 : Nat) (S : PS) (l0 : Int32) (l1 : Int32) (l2 : Int32) (l3 : Int32), f_J6_stringSize_0f7a4_L16 post n16 S l0 l1 l2 l3 → ∀ (H : Heap) (locs : List Loc) (ls : Array Slot), p_H D cy S A s H locs → lv_has ls 4 [(0, .int l0), (1, .int l1), (2, .int l2), (3, .int l3)] → W p l e rm_J6_stringSize_0f7a4 s m [.int a0].toArray below meth c H locs 0 0 (MQ below (va_Qi post (p_Post D cy A) A) [.int a0].toArray s 0 0 A) (F0 m 16 ls []) := by
      intro n16
      induction n16 with
      | zero => intro S l0 l1 l2 l3 hf; exact hf.elim
      | succ n16 ih16 =>
        intro S l0 l1 l2 l3 hf H locs ls hH hl
        have hJ42 : ∀ (S : PS) (l1 : Int32), f_J6_stringSize_0f7a4_J42 post S l1 → ∀ (H : Heap) (locs : List Loc) (ls : Array Slot), p_H D cy S A s H locs → lv_has ls 4 [(1, .int l1)] → W p l e rm_J6_stringSize_0f7a4 s m [.int a0].toArray below meth c H locs 0 0 (MQ below (va_Qi post (p_Post D cy A) A) [.int a0].toArray s 0 0 A) (F0 m 42 ls []) := by
          intro S l1 hf H locs ls hH hl
          refine lv_bipush (v := 10) hx hb dJ6_stringSize_0f7a4_42 (by decide) ?_
          refine lv_iload_n hx hb dJ6_stringSize_0f7a4_44 rfl (lv_at hl 0 rfl) ?_
          refine lv_iadd hx hb dJ6_stringSize_0f7a4_45 ?_
          exact q_retI X hH hr hlk hf (Nat.zero_le _) (Nat.zero_le _) dJ6_stringSize_0f7a4_46
        have hJ27 : ∀ (S : PS) (l1 : Int32) (l3 : Int32), f_J6_stringSize_0f7a4_J27 post S l1 l3 → ∀ (H : Heap) (locs : List Loc) (ls : Array Slot), p_H D cy S A s H locs → lv_has ls 4 [(1, .int l1), (3, .int l3)] → W p l e rm_J6_stringSize_0f7a4 s m [.int a0].toArray below meth c H locs 0 0 (MQ below (va_Qi post (p_Post D cy A) A) [.int a0].toArray s 0 0 A) (F0 m 27 ls []) := by
          intro S l1 l3 hf H locs ls hH hl
          refine lv_iload_n hx hb dJ6_stringSize_0f7a4_27 rfl (lv_at hl 1 rfl) ?_
          refine lv_iload_n hx hb dJ6_stringSize_0f7a4_28 rfl (lv_at hl 0 rfl) ?_
          refine lv_iadd hx hb dJ6_stringSize_0f7a4_29 ?_
          exact q_retI X hH hr hlk hf (Nat.zero_le _) (Nat.zero_le _) dJ6_stringSize_0f7a4_30
        refine lv_iload_n hx hb dJ6_stringSize_0f7a4_16 rfl (lv_at hl 3 rfl) ?_
        refine lv_bipush (v := 10) hx hb dJ6_stringSize_0f7a4_17 (by decide) ?_
        refine lv_icmp_ge (tgt := 42) hx hb dJ6_stringSize_0f7a4_19 (by decide) (fun c1 => ?_) (fun c1 => ?_)
        · have hf := (if_pos c1).mp hf
          exact hJ42 S l1 hf H locs ls hH (lv_sub hl [1] rfl)
        · have hf := (if_neg c1).mp hf
          refine lv_iload_n hx hb dJ6_stringSize_0f7a4_22 rfl (lv_at hl 0 rfl) ?_
          refine lv_iload_n hx hb dJ6_stringSize_0f7a4_23 rfl (lv_at hl 2 rfl) ?_
          refine lv_icmp_le (tgt := 31) hx hb dJ6_stringSize_0f7a4_24 (by decide) (fun c2 => ?_) (fun c2 => ?_)
          · have hf := (if_pos c2).mp hf
            refine lv_bipush (v := 10) hx hb dJ6_stringSize_0f7a4_31 (by decide) ?_
            refine lv_iload_n hx hb dJ6_stringSize_0f7a4_33 rfl (lv_at hl 2 rfl) ?_
            refine lv_imul hx hb dJ6_stringSize_0f7a4_34 ?_
            refine lv_istore_n (lv' := [(2, .int ((10 : Int32) * l2)), (0, .int l0), (1, .int l1), (3, .int l3)]) hx hb dJ6_stringSize_0f7a4_35 rfl hl (by decide) rfl (fun ls hl => ?_)
            refine lv_iinc (v := l3 + 1) (lv' := [(3, .int (l3 + 1)), (2, .int ((10 : Int32) * l2)), (0, .int l0), (1, .int l1)]) hx hb dJ6_stringSize_0f7a4_36 hl (k := 3) rfl rfl (by decide) rfl (fun ls hl => ?_)
            refine lv_goto (tgt := 16) hx hb dJ6_stringSize_0f7a4_39 (by decide) ?_
            exact ih16 S l0 l1 ((10 : Int32) * l2) (l3 + 1) hf H locs ls hH (lv_sub hl [2, 3, 1, 0] rfl)
          · have hf := (if_neg c2).mp hf
            exact hJ27 S l1 l3 hf H locs ls hH (lv_sub hl [1, 3] rfl)
    refine lv_bipush (v := (-10)) hx hb dJ6_stringSize_0f7a4_11 (by decide) ?_
    refine lv_istore_n (lv' := [(2, .int ((-10))), (0, .int l0), (1, .int l1)]) hx hb dJ6_stringSize_0f7a4_13 rfl hl (by decide) rfl (fun ls hl => ?_)
    refine lv_iconst (v := 1) hx hb dJ6_stringSize_0f7a4_14 (by decide) ?_
    refine lv_istore_n (lv' := [(3, .int 1), (2, .int ((-10))), (0, .int l0), (1, .int l1)]) hx hb dJ6_stringSize_0f7a4_15 rfl hl (by decide) rfl (fun ls hl => ?_)
    exact hL16 4096 S l0 l1 (-10) 1 hf H locs ls hH (lv_sub hl [2, 3, 1, 0] rfl)
  refine lv_iconst (v := 1) hx hb dJ6_stringSize_0f7a4_0 (by decide) ?_
  refine lv_istore_n (lv' := [(1, .int 1), (0, .int a0)]) hx hb dJ6_stringSize_0f7a4_1 rfl hl (by decide) rfl (fun ls hl => ?_)
  refine lv_iload_n hx hb dJ6_stringSize_0f7a4_2 rfl (lv_at hl 1 rfl) ?_
  refine lv_if_lt (tgt := 11) hx hb dJ6_stringSize_0f7a4_3 (by decide) (fun c1 => ?_) (fun c1 => ?_)
  · have hf := (if_pos c1).mp hf
    exact hJ11 S a0 1 hf H locs ls hH (lv_sub hl [1, 0] rfl)
  · have hf := (if_neg c1).mp hf
    refine lv_iconst (v := 0) hx hb dJ6_stringSize_0f7a4_6 (by decide) ?_
    refine lv_istore_n (lv' := [(1, .int 0), (0, .int a0)]) hx hb dJ6_stringSize_0f7a4_7 rfl hl (by decide) rfl (fun ls hl => ?_)
    refine lv_iload_n hx hb dJ6_stringSize_0f7a4_8 rfl (lv_at hl 1 rfl) ?_
    refine lv_ineg hx hb dJ6_stringSize_0f7a4_9 ?_
    refine lv_istore_n (lv' := [(0, .int (-a0)), (1, .int 0)]) hx hb dJ6_stringSize_0f7a4_10 rfl hl (by decide) rfl (fun ls hl => ?_)
    exact hJ11 S (-a0) 0 hf H locs ls hH hl
-- J6_bitCount_0f7a4
def f_J6_bitCount_0f7a4 (S : PS) (a0 : Int32) (post : Int32 → PS → Prop) : Prop :=
  post ((((((((a0 - ((((a0).toUInt32 >>> (((1 : Int32)).toUInt32 &&& Int32.toUInt32 31)).toInt32) &&& 1431655765)) &&& 858993459) + (((((a0 - ((((a0).toUInt32 >>> (((1 : Int32)).toUInt32 &&& Int32.toUInt32 31)).toInt32) &&& 1431655765))).toUInt32 >>> (((2 : Int32)).toUInt32 &&& Int32.toUInt32 31)).toInt32) &&& 858993459)) + ((((((a0 - ((((a0).toUInt32 >>> (((1 : Int32)).toUInt32 &&& Int32.toUInt32 31)).toInt32) &&& 1431655765)) &&& 858993459) + (((((a0 - ((((a0).toUInt32 >>> (((1 : Int32)).toUInt32 &&& Int32.toUInt32 31)).toInt32) &&& 1431655765))).toUInt32 >>> (((2 : Int32)).toUInt32 &&& Int32.toUInt32 31)).toInt32) &&& 858993459))).toUInt32 >>> (((4 : Int32)).toUInt32 &&& Int32.toUInt32 31)).toInt32)) &&& 252645135) + ((((((((a0 - ((((a0).toUInt32 >>> (((1 : Int32)).toUInt32 &&& Int32.toUInt32 31)).toInt32) &&& 1431655765)) &&& 858993459) + (((((a0 - ((((a0).toUInt32 >>> (((1 : Int32)).toUInt32 &&& Int32.toUInt32 31)).toInt32) &&& 1431655765))).toUInt32 >>> (((2 : Int32)).toUInt32 &&& Int32.toUInt32 31)).toInt32) &&& 858993459)) + ((((((a0 - ((((a0).toUInt32 >>> (((1 : Int32)).toUInt32 &&& Int32.toUInt32 31)).toInt32) &&& 1431655765)) &&& 858993459) + (((((a0 - ((((a0).toUInt32 >>> (((1 : Int32)).toUInt32 &&& Int32.toUInt32 31)).toInt32) &&& 1431655765))).toUInt32 >>> (((2 : Int32)).toUInt32 &&& Int32.toUInt32 31)).toInt32) &&& 858993459))).toUInt32 >>> (((4 : Int32)).toUInt32 &&& Int32.toUInt32 31)).toInt32)) &&& 252645135)).toUInt32 >>> (((8 : Int32)).toUInt32 &&& Int32.toUInt32 31)).toInt32)) + (((((((((a0 - ((((a0).toUInt32 >>> (((1 : Int32)).toUInt32 &&& Int32.toUInt32 31)).toInt32) &&& 1431655765)) &&& 858993459) + (((((a0 - ((((a0).toUInt32 >>> (((1 : Int32)).toUInt32 &&& Int32.toUInt32 31)).toInt32) &&& 1431655765))).toUInt32 >>> (((2 : Int32)).toUInt32 &&& Int32.toUInt32 31)).toInt32) &&& 858993459)) + ((((((a0 - ((((a0).toUInt32 >>> (((1 : Int32)).toUInt32 &&& Int32.toUInt32 31)).toInt32) &&& 1431655765)) &&& 858993459) + (((((a0 - ((((a0).toUInt32 >>> (((1 : Int32)).toUInt32 &&& Int32.toUInt32 31)).toInt32) &&& 1431655765))).toUInt32 >>> (((2 : Int32)).toUInt32 &&& Int32.toUInt32 31)).toInt32) &&& 858993459))).toUInt32 >>> (((4 : Int32)).toUInt32 &&& Int32.toUInt32 31)).toInt32)) &&& 252645135) + ((((((((a0 - ((((a0).toUInt32 >>> (((1 : Int32)).toUInt32 &&& Int32.toUInt32 31)).toInt32) &&& 1431655765)) &&& 858993459) + (((((a0 - ((((a0).toUInt32 >>> (((1 : Int32)).toUInt32 &&& Int32.toUInt32 31)).toInt32) &&& 1431655765))).toUInt32 >>> (((2 : Int32)).toUInt32 &&& Int32.toUInt32 31)).toInt32) &&& 858993459)) + ((((((a0 - ((((a0).toUInt32 >>> (((1 : Int32)).toUInt32 &&& Int32.toUInt32 31)).toInt32) &&& 1431655765)) &&& 858993459) + (((((a0 - ((((a0).toUInt32 >>> (((1 : Int32)).toUInt32 &&& Int32.toUInt32 31)).toInt32) &&& 1431655765))).toUInt32 >>> (((2 : Int32)).toUInt32 &&& Int32.toUInt32 31)).toInt32) &&& 858993459))).toUInt32 >>> (((4 : Int32)).toUInt32 &&& Int32.toUInt32 31)).toInt32)) &&& 252645135)).toUInt32 >>> (((8 : Int32)).toUInt32 &&& Int32.toUInt32 31)).toInt32))).toUInt32 >>> (((16 : Int32)).toUInt32 &&& Int32.toUInt32 31)).toInt32)) &&& 63) S
abbrev rm_J6_bitCount_0f7a4 : Room := { frames := 0, cells := 0, slots := 0, locals := 0 }
set_option maxHeartbeats 4000000 in
set_option maxRecDepth 100000 in
theorem c_J6_bitCount_0f7a4 (l : Launch) (D : va_G) (cy : Nat → ClassId) (G : p_GT) (hG : p_ok G) (S : PS) (a0 : Int32) (post : Int32 → PS → Prop) (sz : Nat) (hf : f_J6_bitCount_0f7a4 S a0 post) : p_Mi l D cy G S sz yJ6_bitCount_0f7a4 (Cond.code yJ6_bitCount_0f7a4 cJ6_bitCount_0f7a4 1 (some .int) :: wG) rm_J6_bitCount_0f7a4 [.int a0] 0 0 post := by
  refine q_start hG (Qc := fun A => va_Qi post (p_Post D cy A) A) mf_J6_bitCount_0f7a4 (Nat.le_of_ble_eq_true rfl) (own := RJ6) rfl ?_
  intro p e s m below meth c A X hr hlk hnm ls hl hH
  have hx := X.1.1
  have hb := X.1.2.1
  replace hl : lv_has ls 1 [(0, .int a0)] := hl
  obtain ⟨H, hHe⟩ : ∃ H, H = s.heap := ⟨_, rfl⟩
  obtain ⟨locs, hlo⟩ : ∃ locs : List Loc, locs = [] := ⟨_, rfl⟩
  rw [← hHe, ← hlo] at hH
  show W p l e rm_J6_bitCount_0f7a4 s m [.int a0].toArray below meth c s.heap [] 0 0 _ _
  rw [← hHe, ← hlo]
  refine lv_iload_n hx hb dJ6_bitCount_0f7a4_0 rfl (lv_at hl 0 rfl) ?_
  refine lv_iload_n hx hb dJ6_bitCount_0f7a4_1 rfl (lv_at hl 0 rfl) ?_
  refine lv_iconst (v := 1) hx hb dJ6_bitCount_0f7a4_2 (by decide) ?_
  refine lv_iushr (v := ((a0).toUInt32 >>> (((1 : Int32)).toUInt32 &&& Int32.toUInt32 31)).toInt32) hx hb dJ6_bitCount_0f7a4_3 rfl ?_
  refine lv_ldcw (v := 1431655765) hx hb X.1.2.2.2.1 (X.1.2.2.2.2 _ tw_851) dJ6_bitCount_0f7a4_4 ?_
  refine lv_iand hx hb dJ6_bitCount_0f7a4_7 ?_
  refine lv_isub hx hb dJ6_bitCount_0f7a4_8 ?_
  refine lv_istore_n (lv' := [(0, .int (a0 - ((((a0).toUInt32 >>> (((1 : Int32)).toUInt32 &&& Int32.toUInt32 31)).toInt32) &&& 1431655765)))]) hx hb dJ6_bitCount_0f7a4_9 rfl hl (by decide) rfl (fun ls hl => ?_)
  refine lv_iload_n hx hb dJ6_bitCount_0f7a4_10 rfl (lv_at hl 0 rfl) ?_
  refine lv_ldcw (v := 858993459) hx hb X.1.2.2.2.1 (X.1.2.2.2.2 _ tw_852) dJ6_bitCount_0f7a4_11 ?_
  refine lv_iand hx hb dJ6_bitCount_0f7a4_14 ?_
  refine lv_iload_n hx hb dJ6_bitCount_0f7a4_15 rfl (lv_at hl 0 rfl) ?_
  refine lv_iconst (v := 2) hx hb dJ6_bitCount_0f7a4_16 (by decide) ?_
  refine lv_iushr (v := (((a0 - ((((a0).toUInt32 >>> (((1 : Int32)).toUInt32 &&& Int32.toUInt32 31)).toInt32) &&& 1431655765))).toUInt32 >>> (((2 : Int32)).toUInt32 &&& Int32.toUInt32 31)).toInt32) hx hb dJ6_bitCount_0f7a4_17 rfl ?_
  refine lv_ldcw (v := 858993459) hx hb X.1.2.2.2.1 (X.1.2.2.2.2 _ tw_852) dJ6_bitCount_0f7a4_18 ?_
  refine lv_iand hx hb dJ6_bitCount_0f7a4_21 ?_
  refine lv_iadd hx hb dJ6_bitCount_0f7a4_22 ?_
  refine lv_istore_n (lv' := [(0, .int (((a0 - ((((a0).toUInt32 >>> (((1 : Int32)).toUInt32 &&& Int32.toUInt32 31)).toInt32) &&& 1431655765)) &&& 858993459) + (((((a0 - ((((a0).toUInt32 >>> (((1 : Int32)).toUInt32 &&& Int32.toUInt32 31)).toInt32) &&& 1431655765))).toUInt32 >>> (((2 : Int32)).toUInt32 &&& Int32.toUInt32 31)).toInt32) &&& 858993459)))]) hx hb dJ6_bitCount_0f7a4_23 rfl hl (by decide) rfl (fun ls hl => ?_)
  refine lv_iload_n hx hb dJ6_bitCount_0f7a4_24 rfl (lv_at hl 0 rfl) ?_
  refine lv_iload_n hx hb dJ6_bitCount_0f7a4_25 rfl (lv_at hl 0 rfl) ?_
  refine lv_iconst (v := 4) hx hb dJ6_bitCount_0f7a4_26 (by decide) ?_
  refine lv_iushr (v := (((((a0 - ((((a0).toUInt32 >>> (((1 : Int32)).toUInt32 &&& Int32.toUInt32 31)).toInt32) &&& 1431655765)) &&& 858993459) + (((((a0 - ((((a0).toUInt32 >>> (((1 : Int32)).toUInt32 &&& Int32.toUInt32 31)).toInt32) &&& 1431655765))).toUInt32 >>> (((2 : Int32)).toUInt32 &&& Int32.toUInt32 31)).toInt32) &&& 858993459))).toUInt32 >>> (((4 : Int32)).toUInt32 &&& Int32.toUInt32 31)).toInt32) hx hb dJ6_bitCount_0f7a4_27 rfl ?_
  refine lv_iadd hx hb dJ6_bitCount_0f7a4_28 ?_
  refine lv_ldcw (v := 252645135) hx hb X.1.2.2.2.1 (X.1.2.2.2.2 _ tw_853) dJ6_bitCount_0f7a4_29 ?_
  refine lv_iand hx hb dJ6_bitCount_0f7a4_32 ?_
  refine lv_istore_n (lv' := [(0, .int (((((a0 - ((((a0).toUInt32 >>> (((1 : Int32)).toUInt32 &&& Int32.toUInt32 31)).toInt32) &&& 1431655765)) &&& 858993459) + (((((a0 - ((((a0).toUInt32 >>> (((1 : Int32)).toUInt32 &&& Int32.toUInt32 31)).toInt32) &&& 1431655765))).toUInt32 >>> (((2 : Int32)).toUInt32 &&& Int32.toUInt32 31)).toInt32) &&& 858993459)) + ((((((a0 - ((((a0).toUInt32 >>> (((1 : Int32)).toUInt32 &&& Int32.toUInt32 31)).toInt32) &&& 1431655765)) &&& 858993459) + (((((a0 - ((((a0).toUInt32 >>> (((1 : Int32)).toUInt32 &&& Int32.toUInt32 31)).toInt32) &&& 1431655765))).toUInt32 >>> (((2 : Int32)).toUInt32 &&& Int32.toUInt32 31)).toInt32) &&& 858993459))).toUInt32 >>> (((4 : Int32)).toUInt32 &&& Int32.toUInt32 31)).toInt32)) &&& 252645135))]) hx hb dJ6_bitCount_0f7a4_33 rfl hl (by decide) rfl (fun ls hl => ?_)
  refine lv_iload_n hx hb dJ6_bitCount_0f7a4_34 rfl (lv_at hl 0 rfl) ?_
  refine lv_iload_n hx hb dJ6_bitCount_0f7a4_35 rfl (lv_at hl 0 rfl) ?_
  refine lv_bipush (v := 8) hx hb dJ6_bitCount_0f7a4_36 (by decide) ?_
  refine lv_iushr (v := (((((((a0 - ((((a0).toUInt32 >>> (((1 : Int32)).toUInt32 &&& Int32.toUInt32 31)).toInt32) &&& 1431655765)) &&& 858993459) + (((((a0 - ((((a0).toUInt32 >>> (((1 : Int32)).toUInt32 &&& Int32.toUInt32 31)).toInt32) &&& 1431655765))).toUInt32 >>> (((2 : Int32)).toUInt32 &&& Int32.toUInt32 31)).toInt32) &&& 858993459)) + ((((((a0 - ((((a0).toUInt32 >>> (((1 : Int32)).toUInt32 &&& Int32.toUInt32 31)).toInt32) &&& 1431655765)) &&& 858993459) + (((((a0 - ((((a0).toUInt32 >>> (((1 : Int32)).toUInt32 &&& Int32.toUInt32 31)).toInt32) &&& 1431655765))).toUInt32 >>> (((2 : Int32)).toUInt32 &&& Int32.toUInt32 31)).toInt32) &&& 858993459))).toUInt32 >>> (((4 : Int32)).toUInt32 &&& Int32.toUInt32 31)).toInt32)) &&& 252645135)).toUInt32 >>> (((8 : Int32)).toUInt32 &&& Int32.toUInt32 31)).toInt32) hx hb dJ6_bitCount_0f7a4_38 rfl ?_
  refine lv_iadd hx hb dJ6_bitCount_0f7a4_39 ?_
  refine lv_istore_n (lv' := [(0, .int ((((((a0 - ((((a0).toUInt32 >>> (((1 : Int32)).toUInt32 &&& Int32.toUInt32 31)).toInt32) &&& 1431655765)) &&& 858993459) + (((((a0 - ((((a0).toUInt32 >>> (((1 : Int32)).toUInt32 &&& Int32.toUInt32 31)).toInt32) &&& 1431655765))).toUInt32 >>> (((2 : Int32)).toUInt32 &&& Int32.toUInt32 31)).toInt32) &&& 858993459)) + ((((((a0 - ((((a0).toUInt32 >>> (((1 : Int32)).toUInt32 &&& Int32.toUInt32 31)).toInt32) &&& 1431655765)) &&& 858993459) + (((((a0 - ((((a0).toUInt32 >>> (((1 : Int32)).toUInt32 &&& Int32.toUInt32 31)).toInt32) &&& 1431655765))).toUInt32 >>> (((2 : Int32)).toUInt32 &&& Int32.toUInt32 31)).toInt32) &&& 858993459))).toUInt32 >>> (((4 : Int32)).toUInt32 &&& Int32.toUInt32 31)).toInt32)) &&& 252645135) + ((((((((a0 - ((((a0).toUInt32 >>> (((1 : Int32)).toUInt32 &&& Int32.toUInt32 31)).toInt32) &&& 1431655765)) &&& 858993459) + (((((a0 - ((((a0).toUInt32 >>> (((1 : Int32)).toUInt32 &&& Int32.toUInt32 31)).toInt32) &&& 1431655765))).toUInt32 >>> (((2 : Int32)).toUInt32 &&& Int32.toUInt32 31)).toInt32) &&& 858993459)) + ((((((a0 - ((((a0).toUInt32 >>> (((1 : Int32)).toUInt32 &&& Int32.toUInt32 31)).toInt32) &&& 1431655765)) &&& 858993459) + (((((a0 - ((((a0).toUInt32 >>> (((1 : Int32)).toUInt32 &&& Int32.toUInt32 31)).toInt32) &&& 1431655765))).toUInt32 >>> (((2 : Int32)).toUInt32 &&& Int32.toUInt32 31)).toInt32) &&& 858993459))).toUInt32 >>> (((4 : Int32)).toUInt32 &&& Int32.toUInt32 31)).toInt32)) &&& 252645135)).toUInt32 >>> (((8 : Int32)).toUInt32 &&& Int32.toUInt32 31)).toInt32)))]) hx hb dJ6_bitCount_0f7a4_40 rfl hl (by decide) rfl (fun ls hl => ?_)
  refine lv_iload_n hx hb dJ6_bitCount_0f7a4_41 rfl (lv_at hl 0 rfl) ?_
  refine lv_iload_n hx hb dJ6_bitCount_0f7a4_42 rfl (lv_at hl 0 rfl) ?_
  refine lv_bipush (v := 16) hx hb dJ6_bitCount_0f7a4_43 (by decide) ?_
  refine lv_iushr (v := ((((((((a0 - ((((a0).toUInt32 >>> (((1 : Int32)).toUInt32 &&& Int32.toUInt32 31)).toInt32) &&& 1431655765)) &&& 858993459) + (((((a0 - ((((a0).toUInt32 >>> (((1 : Int32)).toUInt32 &&& Int32.toUInt32 31)).toInt32) &&& 1431655765))).toUInt32 >>> (((2 : Int32)).toUInt32 &&& Int32.toUInt32 31)).toInt32) &&& 858993459)) + ((((((a0 - ((((a0).toUInt32 >>> (((1 : Int32)).toUInt32 &&& Int32.toUInt32 31)).toInt32) &&& 1431655765)) &&& 858993459) + (((((a0 - ((((a0).toUInt32 >>> (((1 : Int32)).toUInt32 &&& Int32.toUInt32 31)).toInt32) &&& 1431655765))).toUInt32 >>> (((2 : Int32)).toUInt32 &&& Int32.toUInt32 31)).toInt32) &&& 858993459))).toUInt32 >>> (((4 : Int32)).toUInt32 &&& Int32.toUInt32 31)).toInt32)) &&& 252645135) + ((((((((a0 - ((((a0).toUInt32 >>> (((1 : Int32)).toUInt32 &&& Int32.toUInt32 31)).toInt32) &&& 1431655765)) &&& 858993459) + (((((a0 - ((((a0).toUInt32 >>> (((1 : Int32)).toUInt32 &&& Int32.toUInt32 31)).toInt32) &&& 1431655765))).toUInt32 >>> (((2 : Int32)).toUInt32 &&& Int32.toUInt32 31)).toInt32) &&& 858993459)) + ((((((a0 - ((((a0).toUInt32 >>> (((1 : Int32)).toUInt32 &&& Int32.toUInt32 31)).toInt32) &&& 1431655765)) &&& 858993459) + (((((a0 - ((((a0).toUInt32 >>> (((1 : Int32)).toUInt32 &&& Int32.toUInt32 31)).toInt32) &&& 1431655765))).toUInt32 >>> (((2 : Int32)).toUInt32 &&& Int32.toUInt32 31)).toInt32) &&& 858993459))).toUInt32 >>> (((4 : Int32)).toUInt32 &&& Int32.toUInt32 31)).toInt32)) &&& 252645135)).toUInt32 >>> (((8 : Int32)).toUInt32 &&& Int32.toUInt32 31)).toInt32))).toUInt32 >>> (((16 : Int32)).toUInt32 &&& Int32.toUInt32 31)).toInt32) hx hb dJ6_bitCount_0f7a4_45 rfl ?_
  refine lv_iadd hx hb dJ6_bitCount_0f7a4_46 ?_
  refine lv_istore_n (lv' := [(0, .int (((((((a0 - ((((a0).toUInt32 >>> (((1 : Int32)).toUInt32 &&& Int32.toUInt32 31)).toInt32) &&& 1431655765)) &&& 858993459) + (((((a0 - ((((a0).toUInt32 >>> (((1 : Int32)).toUInt32 &&& Int32.toUInt32 31)).toInt32) &&& 1431655765))).toUInt32 >>> (((2 : Int32)).toUInt32 &&& Int32.toUInt32 31)).toInt32) &&& 858993459)) + ((((((a0 - ((((a0).toUInt32 >>> (((1 : Int32)).toUInt32 &&& Int32.toUInt32 31)).toInt32) &&& 1431655765)) &&& 858993459) + (((((a0 - ((((a0).toUInt32 >>> (((1 : Int32)).toUInt32 &&& Int32.toUInt32 31)).toInt32) &&& 1431655765))).toUInt32 >>> (((2 : Int32)).toUInt32 &&& Int32.toUInt32 31)).toInt32) &&& 858993459))).toUInt32 >>> (((4 : Int32)).toUInt32 &&& Int32.toUInt32 31)).toInt32)) &&& 252645135) + ((((((((a0 - ((((a0).toUInt32 >>> (((1 : Int32)).toUInt32 &&& Int32.toUInt32 31)).toInt32) &&& 1431655765)) &&& 858993459) + (((((a0 - ((((a0).toUInt32 >>> (((1 : Int32)).toUInt32 &&& Int32.toUInt32 31)).toInt32) &&& 1431655765))).toUInt32 >>> (((2 : Int32)).toUInt32 &&& Int32.toUInt32 31)).toInt32) &&& 858993459)) + ((((((a0 - ((((a0).toUInt32 >>> (((1 : Int32)).toUInt32 &&& Int32.toUInt32 31)).toInt32) &&& 1431655765)) &&& 858993459) + (((((a0 - ((((a0).toUInt32 >>> (((1 : Int32)).toUInt32 &&& Int32.toUInt32 31)).toInt32) &&& 1431655765))).toUInt32 >>> (((2 : Int32)).toUInt32 &&& Int32.toUInt32 31)).toInt32) &&& 858993459))).toUInt32 >>> (((4 : Int32)).toUInt32 &&& Int32.toUInt32 31)).toInt32)) &&& 252645135)).toUInt32 >>> (((8 : Int32)).toUInt32 &&& Int32.toUInt32 31)).toInt32)) + (((((((((a0 - ((((a0).toUInt32 >>> (((1 : Int32)).toUInt32 &&& Int32.toUInt32 31)).toInt32) &&& 1431655765)) &&& 858993459) + (((((a0 - ((((a0).toUInt32 >>> (((1 : Int32)).toUInt32 &&& Int32.toUInt32 31)).toInt32) &&& 1431655765))).toUInt32 >>> (((2 : Int32)).toUInt32 &&& Int32.toUInt32 31)).toInt32) &&& 858993459)) + ((((((a0 - ((((a0).toUInt32 >>> (((1 : Int32)).toUInt32 &&& Int32.toUInt32 31)).toInt32) &&& 1431655765)) &&& 858993459) + (((((a0 - ((((a0).toUInt32 >>> (((1 : Int32)).toUInt32 &&& Int32.toUInt32 31)).toInt32) &&& 1431655765))).toUInt32 >>> (((2 : Int32)).toUInt32 &&& Int32.toUInt32 31)).toInt32) &&& 858993459))).toUInt32 >>> (((4 : Int32)).toUInt32 &&& Int32.toUInt32 31)).toInt32)) &&& 252645135) + ((((((((a0 - ((((a0).toUInt32 >>> (((1 : Int32)).toUInt32 &&& Int32.toUInt32 31)).toInt32) &&& 1431655765)) &&& 858993459) + (((((a0 - ((((a0).toUInt32 >>> (((1 : Int32)).toUInt32 &&& Int32.toUInt32 31)).toInt32) &&& 1431655765))).toUInt32 >>> (((2 : Int32)).toUInt32 &&& Int32.toUInt32 31)).toInt32) &&& 858993459)) + ((((((a0 - ((((a0).toUInt32 >>> (((1 : Int32)).toUInt32 &&& Int32.toUInt32 31)).toInt32) &&& 1431655765)) &&& 858993459) + (((((a0 - ((((a0).toUInt32 >>> (((1 : Int32)).toUInt32 &&& Int32.toUInt32 31)).toInt32) &&& 1431655765))).toUInt32 >>> (((2 : Int32)).toUInt32 &&& Int32.toUInt32 31)).toInt32) &&& 858993459))).toUInt32 >>> (((4 : Int32)).toUInt32 &&& Int32.toUInt32 31)).toInt32)) &&& 252645135)).toUInt32 >>> (((8 : Int32)).toUInt32 &&& Int32.toUInt32 31)).toInt32))).toUInt32 >>> (((16 : Int32)).toUInt32 &&& Int32.toUInt32 31)).toInt32)))]) hx hb dJ6_bitCount_0f7a4_47 rfl hl (by decide) rfl (fun ls hl => ?_)
  refine lv_iload_n hx hb dJ6_bitCount_0f7a4_48 rfl (lv_at hl 0 rfl) ?_
  refine lv_bipush (v := 63) hx hb dJ6_bitCount_0f7a4_49 (by decide) ?_
  refine lv_iand hx hb dJ6_bitCount_0f7a4_51 ?_
  exact q_retI X hH hr hlk hf (Nat.zero_le _) (Nat.zero_le _) dJ6_bitCount_0f7a4_52
-- J4_init_da8c8
def f_J4_init_da8c8 (S : PS) (a0 : Nat) (bc bs : Nat) (post : PS → Prop) : Prop :=
  ∃ mc2 ms2 : Nat, mc2 ≤ bc ∧ ms2 ≤ bs ∧ (f_J5_init_d00df S a0 16 mc2 ms2 fun S1 => (
  post S1))
abbrev rm_J4_init_da8c8 (mc ms : Nat) : Room := { frames := 2, cells := mc, slots := ms, locals := 41 }
set_option maxHeartbeats 4000000 in
set_option maxRecDepth 100000 in
theorem c_J4_init_da8c8 (l : Launch) (D : va_G) (cy : Nat → ClassId) (G : p_GT) (hG : p_ok G) (hGC : ∀ (A : Nat → Prop) (U : State) (H : Heap), G A U H → gC A U H) (S : PS) (a0 : Nat) (mc ms : Nat) (post : PS → Prop) (sz : Nat) (hf : f_J4_init_da8c8 S a0 mc ms post) : p_Mv l D cy G S sz yJ4_init_da8c8 (Cond.code yJ4_init_da8c8 cJ4_init_da8c8 1 none :: wG) (rm_J4_init_da8c8 mc ms) [.ref a0] mc ms post := by
  refine q_start hG (Qc := fun A => va_Qv post (p_Post D cy A) A) mf_J4_init_da8c8 (Nat.le_of_ble_eq_true rfl) (own := RJ4) rfl ?_
  intro p e s m below meth c A X hr hlk hnm ls hl hH
  have hx := X.1.1
  have hb := X.1.2.1
  replace hl : lv_has ls 1 [(0, .ref a0)] := hl
  have main : ∀ (H : Heap) (locs : List Loc) (ls : Array Slot) (cells slots bc bs : Nat), f_J4_init_da8c8 S a0 bc bs post → p_H D cy S A s H locs → lv_has ls 1 [(0, .ref a0)] → cells + bc ≤ mc ∧ slots + bs ≤ ms → W p l e (rm_J4_init_da8c8 mc ms) s m [.ref a0].toArray below meth c H locs cells slots (MQ below (va_Qv post (p_Post D cy A) A) [.ref a0].toArray s mc ms A) (F0 m 0 ls []) := by
    intro H locs ls cells slots bc bs hf hH hl hB
    refine lv_aload_n hx hb dJ4_init_da8c8_0 rfl (lv_at hl 0 rfl) ?_
    refine lv_bipush (v := 16) hx hb dJ4_init_da8c8_1 (by decide) ?_
    obtain ⟨mc2, ms2, hm1, hs1, hf⟩ := hf
    refine q_backVB X hH hB hm1 hs1 (q_runI [.int 16] [] X hH hl (c_J5_init_d00df l D cy G X.2.2.2.1 hGC S a0 16 mc2 ms2 _ _ hf) mf_J5_init_d00df tw_183 tw_182 ⟨Nat.le_of_ble_eq_true rfl, Nat.le_of_ble_eq_true rfl⟩ rfl (Nat.le_of_ble_eq_true rfl) dJ4_init_da8c8_3 ⟨Nat.le_trans (Nat.add_le_add_left hm1 _) hB.1, Nat.le_trans (Nat.add_le_add_left hs1 _) hB.2⟩) (fun S1 hf H locs cells slots hH hB => ?_)
    exact q_retV X hH hr hlk hf (Nat.le_trans (Nat.le_add_right _ _) hB.1) (Nat.le_trans (Nat.le_add_right _ _) hB.2) dJ4_init_da8c8_6
  exact main s.heap [] ls 0 0 mc ms hf hH hl ⟨by omega, by omega⟩
-- J4_length_8abf5
def f_J4_length_8abf5 (S : PS) (a0 : Nat) (post : Int32 → PS → Prop) : Prop :=
  isO S a0 1 (
  f_J5_length_8abf5 S a0 fun v2 S1 => (
  post v2 S1))
abbrev rm_J4_length_8abf5 : Room := { frames := 1, cells := 0, slots := 0, locals := 20 }
set_option maxHeartbeats 4000000 in
set_option maxRecDepth 100000 in
theorem c_J4_length_8abf5 (l : Launch) (D : va_G) (cy : Nat → ClassId) (G : p_GT) (hG : p_ok G) (S : PS) (a0 : Nat) (post : Int32 → PS → Prop) (sz : Nat) (hf : f_J4_length_8abf5 S a0 post) : p_Mi l D cy G S sz yJ4_length_8abf5 (Cond.code yJ4_length_8abf5 cJ4_length_8abf5 1 (some .int) :: wG) rm_J4_length_8abf5 [.ref a0] 0 0 post := by
  refine q_start hG (Qc := fun A => va_Qi post (p_Post D cy A) A) mf_J4_length_8abf5 (Nat.le_of_ble_eq_true rfl) (own := RJ4) rfl ?_
  intro p e s m below meth c A X hr hlk hnm ls hl hH
  have hx := X.1.1
  have hb := X.1.2.1
  replace hl : lv_has ls 1 [(0, .ref a0)] := hl
  obtain ⟨H, hHe⟩ : ∃ H, H = s.heap := ⟨_, rfl⟩
  obtain ⟨locs, hlo⟩ : ∃ locs : List Loc, locs = [] := ⟨_, rfl⟩
  rw [← hHe, ← hlo] at hH
  show W p l e rm_J4_length_8abf5 s m [.ref a0].toArray below meth c s.heap [] 0 0 _ _
  rw [← hHe, ← hlo]
  refine lv_aload_n hx hb dJ4_length_8abf5_0 rfl (lv_at hl 0 rfl) ?_
  obtain ⟨hb1, hb2, hf⟩ := hf
  refine q_backI0 X hH (q_runSU [] [] X hH hl (c_J5_length_8abf5 l D cy G X.2.2.2.1 S a0 _ _ hf) mf_J5_length_8abf5 tw_732 tw_1303 tw_208 (by decide +kernel) tw_731 ⟨Nat.le_of_ble_eq_true rfl, Nat.le_of_ble_eq_true rfl⟩ hb1 hb2 rfl (Nat.le_of_ble_eq_true rfl) dJ4_length_8abf5_1 ⟨Nat.le_of_ble_eq_true rfl, Nat.le_of_ble_eq_true rfl⟩) (fun v2 S1 hf H locs hH => ?_)
  exact q_retI X hH hr hlk hf (Nat.zero_le _) (Nat.zero_le _) dJ4_length_8abf5_4
-- J1_canEncode_fc78d
def f_J1_canEncode_fc78d (S : PS) (a0 : Int32) (post : Int32 → PS → Prop) : Prop :=
  if 255 < a0 then
    nZ .boolean 0 (post 0 S)
  else
    nZ .boolean 1 (post 1 S)
abbrev rm_J1_canEncode_fc78d : Room := { frames := 0, cells := 0, slots := 0, locals := 0 }
set_option maxHeartbeats 4000000 in
set_option maxRecDepth 100000 in
theorem c_J1_canEncode_fc78d (l : Launch) (D : va_G) (cy : Nat → ClassId) (G : p_GT) (hG : p_ok G) (S : PS) (a0 : Int32) (post : Int32 → PS → Prop) (sz : Nat) (hf : f_J1_canEncode_fc78d S a0 post) : p_Mi l D cy G S sz yJ1_canEncode_fc78d (Cond.code yJ1_canEncode_fc78d cJ1_canEncode_fc78d 1 (some .boolean) :: wG) rm_J1_canEncode_fc78d [.int a0] 0 0 post := by
  refine q_start hG (Qc := fun A => va_Qi post (p_Post D cy A) A) mf_J1_canEncode_fc78d (Nat.le_of_ble_eq_true rfl) (own := RJ1) rfl ?_
  intro p e s m below meth c A X hr hlk hnm ls hl hH
  have hx := X.1.1
  have hb := X.1.2.1
  replace hl : lv_has ls 1 [(0, .int a0)] := hl
  obtain ⟨H, hHe⟩ : ∃ H, H = s.heap := ⟨_, rfl⟩
  obtain ⟨locs, hlo⟩ : ∃ locs : List Loc, locs = [] := ⟨_, rfl⟩
  rw [← hHe, ← hlo] at hH
  show W p l e rm_J1_canEncode_fc78d s m [.int a0].toArray below meth c s.heap [] 0 0 _ _
  rw [← hHe, ← hlo]
  refine lv_iload_n hx hb dJ1_canEncode_fc78d_0 rfl (lv_at hl 0 rfl) ?_
  refine lv_sipush (v := 255) hx hb dJ1_canEncode_fc78d_1 (by decide) ?_
  refine lv_icmp_gt (tgt := 11) hx hb dJ1_canEncode_fc78d_4 (by decide) (fun c1 => ?_) (fun c1 => ?_)
  · have hf := (if_pos c1).mp hf
    refine lv_iconst (v := 0) hx hb dJ1_canEncode_fc78d_11 (by decide) ?_
    exact q_retZ X hH hr hlk hf (Nat.zero_le _) (Nat.zero_le _) dJ1_canEncode_fc78d_12
  · have hf := (if_neg c1).mp hf
    refine lv_iconst (v := 1) hx hb dJ1_canEncode_fc78d_7 (by decide) ?_
    refine lv_goto (tgt := 12) hx hb dJ1_canEncode_fc78d_8 (by decide) ?_
    exact q_retZ X hH hr hlk hf (Nat.zero_le _) (Nat.zero_le _) dJ1_canEncode_fc78d_12
-- J7_copyOf_9075b
def f_J7_copyOf_9075b (S : PS) (a0 : Nat) (a1 : Int32) (bc bs : Nat) (post : Nat → PS → Prop) : Prop :=
  lE S a0 fun v1 => (
  if a1 = v1 then
    False
  else
    nA S 1 a1 bc bs fun q3 S4 bc5 bs6 => (
    lE S4 a0 fun v7 => (
    cpB S4 a0 0 q3 0 (if a1 < v7 then a1 else v7) fun S8 => (
    post q3 S8))))
abbrev rm_J7_copyOf_9075b (mc ms : Nat) : Room := { frames := 1, cells := mc, slots := ms, locals := 60 }
set_option maxHeartbeats 4000000 in
set_option maxRecDepth 100000 in
theorem c_J7_copyOf_9075b (l : Launch) (D : va_G) (cy : Nat → ClassId) (G : p_GT) (hG : p_ok G) (S : PS) (a0 : Nat) (a1 : Int32) (mc ms : Nat) (post : Nat → PS → Prop) (sz : Nat) (hf : f_J7_copyOf_9075b S a0 a1 mc ms post) : p_Mr l D cy G S sz yJ7_copyOf_9075b (Cond.code yJ7_copyOf_9075b cJ7_copyOf_9075b 3 (some (.array .byte)) :: wG) (rm_J7_copyOf_9075b mc ms) [.ref a0, .int a1] mc ms post := by
  refine q_start hG (Qc := fun A => p_Qr D cy post A) mf_J7_copyOf_9075b (Nat.le_of_ble_eq_true rfl) (own := RJ7) rfl ?_
  intro p e s m below meth c A X hr hlk hnm ls hl hH
  have hx := X.1.1
  have hb := X.1.2.1
  replace hl : lv_has ls 3 [(0, .ref a0), (1, .int a1)] := hl
  have main : ∀ (H : Heap) (locs : List Loc) (ls : Array Slot) (cells slots bc bs : Nat), f_J7_copyOf_9075b S a0 a1 bc bs post → p_H D cy S A s H locs → lv_has ls 3 [(0, .ref a0), (1, .int a1)] → cells + bc ≤ mc ∧ slots + bs ≤ ms → W p l e (rm_J7_copyOf_9075b mc ms) s m [.ref a0, .int a1].toArray below meth c H locs cells slots (MQ below (p_Qr D cy post A) [.ref a0, .int a1].toArray s mc ms A) (F0 m 0 ls []) := by
    intro H locs ls cells slots bc bs hf hH hl hB
    refine lv_iload_n hx hb dJ7_copyOf_9075b_0 rfl (lv_at hl 1 rfl) ?_
    refine lv_aload_n hx hb dJ7_copyOf_9075b_1 rfl (lv_at hl 0 rfl) ?_
    refine q_alen X hH hf dJ7_copyOf_9075b_2 (fun v1 hf => ?_)
    refine lv_icmp_ne (tgt := 14) hx hb dJ7_copyOf_9075b_3 (by decide) (fun c2 => ?_) (fun c2 => ?_)
    · have hf := (if_neg c2).mp hf
      refine lv_iload_n hx hb dJ7_copyOf_9075b_14 rfl (lv_at hl 1 rfl) ?_
      refine q_newa (t := 1) (atype := .byte) (ty := .byte) X hH hB hf tw_209 rfl rfl (fun C h => by cases h) (fun N cA => rfl) (by decide) dJ7_copyOf_9075b_15 (fun q3 S4 bc5 bs6 hf H locs cells slots hH hB => ?_)
      refine lv_astore_n (lv' := [(2, .ref q3), (0, .ref a0), (1, .int a1)]) hx hb dJ7_copyOf_9075b_17 rfl hl (by decide) rfl (fun ls hl => ?_)
      refine lv_aload_n hx hb dJ7_copyOf_9075b_18 rfl (lv_at hl 1 rfl) ?_
      refine lv_iconst (v := 0) hx hb dJ7_copyOf_9075b_19 (by decide) ?_
      refine lv_aload_n hx hb dJ7_copyOf_9075b_20 rfl (lv_at hl 0 rfl) ?_
      refine lv_iconst (v := 0) hx hb dJ7_copyOf_9075b_21 (by decide) ?_
      refine lv_aload_n hx hb dJ7_copyOf_9075b_22 rfl (lv_at hl 1 rfl) ?_
      refine q_alen X hH hf dJ7_copyOf_9075b_23 (fun v7 hf => ?_)
      refine lv_iload_n hx hb dJ7_copyOf_9075b_24 rfl (lv_at hl 2 rfl) ?_
      refine q_mmin X hl tw_700 tw_496 tw_47 tw_497 ⟨Nat.le_of_ble_eq_true rfl, Nat.le_of_ble_eq_true rfl⟩ (Nat.le_of_ble_eq_true rfl) (Nat.le_trans (Nat.le_add_right _ _) hB.1) (Nat.le_trans (Nat.le_add_right _ _) hB.2) dJ7_copyOf_9075b_25 ?_
      refine q_copyb X hH hl hf tw_701 tw_703 tw_702 tw_46 ⟨Nat.le_of_ble_eq_true rfl, Nat.le_of_ble_eq_true rfl⟩ (Nat.le_of_ble_eq_true rfl) dJ7_copyOf_9075b_28 (fun S8 hf H locs hH => ?_)
      refine lv_aload_n hx hb dJ7_copyOf_9075b_31 rfl (lv_at hl 0 rfl) ?_
      exact q_retR X hH hr (Or.inr ⟨_, rfl⟩) hlk hf (Nat.le_trans (Nat.le_add_right _ _) hB.1) (Nat.le_trans (Nat.le_add_right _ _) hB.2) dJ7_copyOf_9075b_32
    · have hf := (if_pos c2).mp hf
      exact hf.elim
  exact main s.heap [] ls 0 0 mc ms hf hH hl ⟨by omega, by omega⟩
-- J8_newLength_cabcc
def f_J8_newLength_cabcc_J21 (post : Int32 → PS → Prop) (S : PS) (l0 : Int32) : Prop :=
  False
def f_J8_newLength_cabcc (S : PS) (a0 : Int32) (a1 : Int32) (a2 : Int32) (post : Int32 → PS → Prop) : Prop :=
  if (a0 + (if a1 < a2 then a2 else a1)) ≤ (0 : Int32) then
    f_J8_newLength_cabcc_J21 post S a0
  else
    if 2147483639 < (a0 + (if a1 < a2 then a2 else a1)) then
      f_J8_newLength_cabcc_J21 post S a0
    else
      post (a0 + (if a1 < a2 then a2 else a1)) S
abbrev rm_J8_newLength_cabcc : Room := { frames := 1, cells := 0, slots := 0, locals := 21 }
set_option maxHeartbeats 4000000 in
set_option maxRecDepth 100000 in
theorem c_J8_newLength_cabcc (l : Launch) (D : va_G) (cy : Nat → ClassId) (G : p_GT) (hG : p_ok G) (S : PS) (a0 : Int32) (a1 : Int32) (a2 : Int32) (post : Int32 → PS → Prop) (sz : Nat) (hf : f_J8_newLength_cabcc S a0 a1 a2 post) : p_Mi l D cy G S sz yJ8_newLength_cabcc (Cond.code yJ8_newLength_cabcc cJ8_newLength_cabcc 4 (some .int) :: wG) rm_J8_newLength_cabcc [.int a0, .int a1, .int a2] 0 0 post := by
  refine q_start hG (Qc := fun A => va_Qi post (p_Post D cy A) A) mf_J8_newLength_cabcc (Nat.le_of_ble_eq_true rfl) (own := RJ8) rfl ?_
  intro p e s m below meth c A X hr hlk hnm ls hl hH
  have hx := X.1.1
  have hb := X.1.2.1
  replace hl : lv_has ls 4 [(0, .int a0), (1, .int a1), (2, .int a2)] := hl
  obtain ⟨H, hHe⟩ : ∃ H, H = s.heap := ⟨_, rfl⟩
  obtain ⟨locs, hlo⟩ : ∃ locs : List Loc, locs = [] := ⟨_, rfl⟩
  rw [← hHe, ← hlo] at hH
  show W p l e rm_J8_newLength_cabcc s m [.int a0, .int a1, .int a2].toArray below meth c s.heap [] 0 0 _ _
  rw [← hHe, ← hlo]
  have hJ21 : ∀ (S : PS) (l0 : Int32), f_J8_newLength_cabcc_J21 post S l0 → ∀ (H : Heap) (locs : List Loc) (ls : Array Slot), p_H D cy S A s H locs → lv_has ls 4 [(0, .int l0)] → W p l e rm_J8_newLength_cabcc s m [.int a0, .int a1, .int a2].toArray below meth c H locs 0 0 (MQ below (va_Qi post (p_Post D cy A) A) [.int a0, .int a1, .int a2].toArray s 0 0 A) (F0 m 21 ls []) := by
    intro S l0 hf H locs ls hH hl
    exact hf.elim
  refine lv_iload_n hx hb dJ8_newLength_cabcc_0 rfl (lv_at hl 0 rfl) ?_
  refine lv_iload_n hx hb dJ8_newLength_cabcc_1 rfl (lv_at hl 1 rfl) ?_
  refine lv_iload_n hx hb dJ8_newLength_cabcc_2 rfl (lv_at hl 2 rfl) ?_
  refine q_mmax X hl tw_684 tw_499 tw_47 tw_500 ⟨Nat.le_of_ble_eq_true rfl, Nat.le_of_ble_eq_true rfl⟩ (Nat.le_of_ble_eq_true rfl) (Nat.zero_le _) (Nat.zero_le _) dJ8_newLength_cabcc_3 ?_
  refine lv_iadd hx hb dJ8_newLength_cabcc_6 ?_
  refine lv_istore_n (lv' := [(3, .int (a0 + (if a1 < a2 then a2 else a1))), (0, .int a0), (1, .int a1), (2, .int a2)]) hx hb dJ8_newLength_cabcc_7 rfl hl (by decide) rfl (fun ls hl => ?_)
  refine lv_iconst (v := 0) hx hb dJ8_newLength_cabcc_8 (by decide) ?_
  refine lv_iload_n hx hb dJ8_newLength_cabcc_9 rfl (lv_at hl 0 rfl) ?_
  refine lv_icmp_ge (tgt := 21) hx hb dJ8_newLength_cabcc_10 (by decide) (fun c1 => ?_) (fun c1 => ?_)
  · have hf := (if_pos c1).mp hf
    exact hJ21 S a0 hf H locs ls hH (lv_sub hl [1] rfl)
  · have hf := (if_neg c1).mp hf
    refine lv_iload_n hx hb dJ8_newLength_cabcc_13 rfl (lv_at hl 0 rfl) ?_
    refine lv_ldc (v := 2147483639) hx hb X.1.2.2.2.1 (X.1.2.2.2.2 _ tw_685) dJ8_newLength_cabcc_14 ?_
    refine lv_icmp_gt (tgt := 21) hx hb dJ8_newLength_cabcc_16 (by decide) (fun c2 => ?_) (fun c2 => ?_)
    · have hf := (if_pos c2).mp hf
      exact hJ21 S a0 hf H locs ls hH (lv_sub hl [1] rfl)
    · have hf := (if_neg c2).mp hf
      refine lv_iload_n hx hb dJ8_newLength_cabcc_19 rfl (lv_at hl 0 rfl) ?_
      exact q_retI X hH hr hlk hf (Nat.zero_le _) (Nat.zero_le _) dJ8_newLength_cabcc_20
-- J3_checkIndex_8e157
def f_J3_checkIndex_8e157_J9 (post : Int32 → PS → Prop) (S : PS) (l2 : Option Nat) : Prop :=
  False
def f_J3_checkIndex_8e157 (S : PS) (a0 : Int32) (a1 : Int32) (a2 : Option Nat) (post : Int32 → PS → Prop) : Prop :=
  if a0 < 0 then
    f_J3_checkIndex_8e157_J9 post S a2
  else
    if a0 < a1 then
      post a0 S
    else
      f_J3_checkIndex_8e157_J9 post S a2
abbrev rm_J3_checkIndex_8e157 : Room := { frames := 0, cells := 0, slots := 0, locals := 0 }
set_option maxHeartbeats 4000000 in
set_option maxRecDepth 100000 in
theorem c_J3_checkIndex_8e157 (l : Launch) (D : va_G) (cy : Nat → ClassId) (G : p_GT) (hG : p_ok G) (S : PS) (a0 : Int32) (a1 : Int32) (a2 : Option Nat) (post : Int32 → PS → Prop) (sz : Nat) (hf : f_J3_checkIndex_8e157 S a0 a1 a2 post) : p_Mi l D cy G S sz yJ3_checkIndex_8e157 (Cond.code yJ3_checkIndex_8e157 cJ3_checkIndex_8e157 3 (some .int) :: wG) rm_J3_checkIndex_8e157 [.int a0, .int a1, va_rf a2] 0 0 post := by
  refine q_start hG (Qc := fun A => va_Qi post (p_Post D cy A) A) mf_J3_checkIndex_8e157 (by cases a2 <;> exact Nat.le_of_ble_eq_true rfl) (own := RJ3) rfl ?_
  intro p e s m below meth c A X hr hlk hnm ls hl hH
  have hx := X.1.1
  have hb := X.1.2.1
  replace hl : lv_has ls 3 [(0, .int a0), (1, .int a1), (2, va_rf a2)] := hl
  obtain ⟨H, hHe⟩ : ∃ H, H = s.heap := ⟨_, rfl⟩
  obtain ⟨locs, hlo⟩ : ∃ locs : List Loc, locs = [] := ⟨_, rfl⟩
  rw [← hHe, ← hlo] at hH
  show W p l e rm_J3_checkIndex_8e157 s m [.int a0, .int a1, va_rf a2].toArray below meth c s.heap [] 0 0 _ _
  rw [← hHe, ← hlo]
  have hJ9 : ∀ (S : PS) (l2 : Option Nat), f_J3_checkIndex_8e157_J9 post S l2 → ∀ (H : Heap) (locs : List Loc) (ls : Array Slot), p_H D cy S A s H locs → lv_has ls 3 [(2, va_rf l2)] → W p l e rm_J3_checkIndex_8e157 s m [.int a0, .int a1, va_rf a2].toArray below meth c H locs 0 0 (MQ below (va_Qi post (p_Post D cy A) A) [.int a0, .int a1, va_rf a2].toArray s 0 0 A) (F0 m 9 ls []) := by
    intro S l2 hf H locs ls hH hl
    exact hf.elim
  refine lv_iload_n hx hb dJ3_checkIndex_8e157_0 rfl (lv_at hl 0 rfl) ?_
  refine lv_if_lt (tgt := 9) hx hb dJ3_checkIndex_8e157_1 (by decide) (fun c1 => ?_) (fun c1 => ?_)
  · have hf := (if_pos c1).mp hf
    exact hJ9 S a2 hf H locs ls hH (lv_sub hl [2] rfl)
  · have hf := (if_neg c1).mp hf
    refine lv_iload_n hx hb dJ3_checkIndex_8e157_4 rfl (lv_at hl 0 rfl) ?_
    refine lv_iload_n hx hb dJ3_checkIndex_8e157_5 rfl (lv_at hl 1 rfl) ?_
    refine lv_icmp_lt (tgt := 16) hx hb dJ3_checkIndex_8e157_6 (by decide) (fun c2 => ?_) (fun c2 => ?_)
    · have hf := (if_pos c2).mp hf
      refine lv_iload_n hx hb dJ3_checkIndex_8e157_16 rfl (lv_at hl 0 rfl) ?_
      exact q_retI X hH hr hlk hf (Nat.zero_le _) (Nat.zero_le _) dJ3_checkIndex_8e157_17
    · have hf := (if_neg c2).mp hf
      exact hJ9 S a2 hf H locs ls hH (lv_sub hl [2] rfl)
-- J5_newCapacity_0f7a4
def f_J5_newCapacity_0f7a4 (S : PS) (a0 : Nat) (a1 : Int32) (post : Int32 → PS → Prop) : Prop :=
  gR S a0 1 0 fun v1 => (
  lE S v1 fun v2 => (
  gI S a0 1 1 fun v3 => (
  gI S a0 1 1 fun v4 => (
  f_J8_newLength_cabcc S v2 ((a1 <<< (v3 &&& 31)) - v2) (v2 + ((2 : Int32) <<< (v4 &&& 31))) fun v6 S5 => (
  if v6 = 2147483647 then
    False
  else
    gI S5 a0 1 1 fun v8 => (
    post (v6 >>> (v8 &&& 31)) S5))))))
abbrev rm_J5_newCapacity_0f7a4 : Room := { frames := 2, cells := 0, slots := 0, locals := 44 }
set_option maxHeartbeats 4000000 in
set_option maxRecDepth 100000 in
theorem c_J5_newCapacity_0f7a4 (l : Launch) (D : va_G) (cy : Nat → ClassId) (G : p_GT) (hG : p_ok G) (S : PS) (a0 : Nat) (a1 : Int32) (post : Int32 → PS → Prop) (sz : Nat) (hf : f_J5_newCapacity_0f7a4 S a0 a1 post) : p_Mi l D cy G S sz yJ5_newCapacity_0f7a4 (Cond.code yJ5_newCapacity_0f7a4 cJ5_newCapacity_0f7a4 6 (some .int) :: wG) rm_J5_newCapacity_0f7a4 [.ref a0, .int a1] 0 0 post := by
  refine q_start hG (Qc := fun A => va_Qi post (p_Post D cy A) A) mf_J5_newCapacity_0f7a4 (Nat.le_of_ble_eq_true rfl) (own := RJ5) rfl ?_
  intro p e s m below meth c A X hr hlk hnm ls hl hH
  have hx := X.1.1
  have hb := X.1.2.1
  replace hl : lv_has ls 6 [(0, .ref a0), (1, .int a1)] := hl
  obtain ⟨H, hHe⟩ : ∃ H, H = s.heap := ⟨_, rfl⟩
  obtain ⟨locs, hlo⟩ : ∃ locs : List Loc, locs = [] := ⟨_, rfl⟩
  rw [← hHe, ← hlo] at hH
  show W p l e rm_J5_newCapacity_0f7a4 s m [.ref a0, .int a1].toArray below meth c s.heap [] 0 0 _ _
  rw [← hHe, ← hlo]
  refine lv_aload_n hx hb dJ5_newCapacity_0f7a4_0 rfl (lv_at hl 0 rfl) ?_
  refine q_getR (T := TJ4) (N := 4) X hH hf iw_J4 rfl (by decide) tw_195 (fun _ h => h) dJ5_newCapacity_0f7a4_1 (fun v1 hf => ?_)
  refine q_alen X hH hf dJ5_newCapacity_0f7a4_4 (fun v2 hf => ?_)
  refine lv_istore_n (lv' := [(2, .int v2), (0, .ref a0), (1, .int a1)]) hx hb dJ5_newCapacity_0f7a4_5 rfl hl (by decide) rfl (fun ls hl => ?_)
  refine lv_iload_n hx hb dJ5_newCapacity_0f7a4_6 rfl (lv_at hl 2 rfl) ?_
  refine lv_aload_n hx hb dJ5_newCapacity_0f7a4_7 rfl (lv_at hl 1 rfl) ?_
  refine q_getI (T := TJ4) (N := 4) X hH hf iw_J4 rfl (by decide) tw_196 (fun _ h => h) dJ5_newCapacity_0f7a4_8 (fun v3 hf => ?_)
  refine lv_ishl hx hb dJ5_newCapacity_0f7a4_11 ?_
  refine lv_istore_n (lv' := [(3, .int (a1 <<< (v3 &&& 31))), (2, .int v2), (0, .ref a0), (1, .int a1)]) hx hb dJ5_newCapacity_0f7a4_12 rfl hl (by decide) rfl (fun ls hl => ?_)
  refine lv_iload_n hx hb dJ5_newCapacity_0f7a4_13 rfl (lv_at hl 0 rfl) ?_
  refine lv_iload_n hx hb dJ5_newCapacity_0f7a4_14 rfl (lv_at hl 1 rfl) ?_
  refine lv_isub hx hb dJ5_newCapacity_0f7a4_15 ?_
  refine lv_istore (lv' := [(4, .int ((a1 <<< (v3 &&& 31)) - v2)), (3, .int (a1 <<< (v3 &&& 31))), (2, .int v2), (0, .ref a0), (1, .int a1)]) hx hb dJ5_newCapacity_0f7a4_16 hl (by decide) rfl (fun ls hl => ?_)
  refine lv_iload_n hx hb dJ5_newCapacity_0f7a4_18 rfl (lv_at hl 2 rfl) ?_
  refine lv_iload hx hb dJ5_newCapacity_0f7a4_19 (lv_at hl 0 rfl) ?_
  refine lv_iload_n hx hb dJ5_newCapacity_0f7a4_21 rfl (lv_at hl 2 rfl) ?_
  refine lv_iconst (v := 2) hx hb dJ5_newCapacity_0f7a4_22 (by decide) ?_
  refine lv_aload_n hx hb dJ5_newCapacity_0f7a4_23 rfl (lv_at hl 3 rfl) ?_
  refine q_getI (T := TJ4) (N := 4) X hH hf iw_J4 rfl (by decide) tw_196 (fun _ h => h) dJ5_newCapacity_0f7a4_24 (fun v4 hf => ?_)
  refine lv_ishl hx hb dJ5_newCapacity_0f7a4_27 ?_
  refine lv_iadd hx hb dJ5_newCapacity_0f7a4_28 ?_
  refine q_backI0 X hH (q_runS [.int v2, .int ((a1 <<< (v3 &&& 31)) - v2), .int (v2 + ((2 : Int32) <<< (v4 &&& 31)))] [] X hH hl (c_J8_newLength_cabcc l D cy G X.2.2.2.1 S v2 ((a1 <<< (v3 &&& 31)) - v2) (v2 + ((2 : Int32) <<< (v4 &&& 31))) _ _ hf) mf_J8_newLength_cabcc tw_682 tw_681 ⟨Nat.le_of_ble_eq_true rfl, Nat.le_of_ble_eq_true rfl⟩ rfl (Nat.le_of_ble_eq_true rfl) dJ5_newCapacity_0f7a4_29 ⟨Nat.le_of_ble_eq_true rfl, Nat.le_of_ble_eq_true rfl⟩) (fun v6 S5 hf H locs hH => ?_)
  refine lv_istore (lv' := [(5, .int v6), (4, .int ((a1 <<< (v3 &&& 31)) - v2)), (3, .int (a1 <<< (v3 &&& 31))), (2, .int v2), (0, .ref a0), (1, .int a1)]) hx hb dJ5_newCapacity_0f7a4_32 hl (by decide) rfl (fun ls hl => ?_)
  refine lv_iload hx hb dJ5_newCapacity_0f7a4_34 (lv_at hl 0 rfl) ?_
  refine lv_ldc (v := 2147483647) hx hb X.1.2.2.2.1 (X.1.2.2.2.2 _ tw_689) dJ5_newCapacity_0f7a4_36 ?_
  refine lv_icmp_ne (tgt := 51) hx hb dJ5_newCapacity_0f7a4_38 (by decide) (fun c7 => ?_) (fun c7 => ?_)
  · have hf := (if_neg c7).mp hf
    refine lv_iload hx hb dJ5_newCapacity_0f7a4_51 (lv_at hl 0 rfl) ?_
    refine lv_aload_n hx hb dJ5_newCapacity_0f7a4_53 rfl (lv_at hl 4 rfl) ?_
    refine q_getI (T := TJ4) (N := 4) X hH hf iw_J4 rfl (by decide) tw_196 (fun _ h => h) dJ5_newCapacity_0f7a4_54 (fun v8 hf => ?_)
    refine lv_ishr hx hb dJ5_newCapacity_0f7a4_57 ?_
    exact q_retI X hH hr hlk hf (Nat.zero_le _) (Nat.zero_le _) dJ5_newCapacity_0f7a4_58
  · have hf := (if_pos c7).mp hf
    exact hf.elim
-- J0_checkIndex_df160
def f_J0_checkIndex_df160 (S : PS) (a0 : Int32) (a1 : Int32) (post : PS → Prop) : Prop :=
  ∀ o1 : Option Nat, (
  f_J3_checkIndex_8e157 S a0 a1 o1 fun v3 S2 => (
  post S2))
abbrev rm_J0_checkIndex_df160 : Room := { frames := 1, cells := 0, slots := 0, locals := 22 }
set_option maxHeartbeats 4000000 in
set_option maxRecDepth 100000 in
theorem c_J0_checkIndex_df160 (l : Launch) (D : va_G) (cy : Nat → ClassId) (G : p_GT) (hG : p_ok G) (hGF : ∀ (A : Nat → Prop) (U : State) (H : Heap), G A U H → gF A U H) (S : PS) (a0 : Int32) (a1 : Int32) (post : PS → Prop) (sz : Nat) (hf : f_J0_checkIndex_df160 S a0 a1 post) : p_Mv l D cy G S sz yJ0_checkIndex_df160 (Cond.code yJ0_checkIndex_df160 cJ0_checkIndex_df160 2 none :: wG) rm_J0_checkIndex_df160 [.int a0, .int a1] 0 0 post := by
  refine q_start hG (Qc := fun A => va_Qv post (p_Post D cy A) A) mf_J0_checkIndex_df160 (Nat.le_of_ble_eq_true rfl) (own := RJ0) rfl ?_
  intro p e s m below meth c A X hr hlk hnm ls hl hH
  have hx := X.1.1
  have hb := X.1.2.1
  replace hl : lv_has ls 2 [(0, .int a0), (1, .int a1)] := hl
  obtain ⟨H, hHe⟩ : ∃ H, H = s.heap := ⟨_, rfl⟩
  obtain ⟨locs, hlo⟩ : ∃ locs : List Loc, locs = [] := ⟨_, rfl⟩
  rw [← hHe, ← hlo] at hH
  show W p l e rm_J0_checkIndex_df160 s m [.int a0, .int a1].toArray below meth c s.heap [] 0 0 _ _
  rw [← hHe, ← hlo]
  refine lv_iload_n hx hb dJ0_checkIndex_df160_0 rfl (lv_at hl 0 rfl) ?_
  refine lv_iload_n hx hb dJ0_checkIndex_df160_1 rfl (lv_at hl 1 rfl) ?_
  refine q_getsF X hH (hGF _ _ _ X.2.2.2.2) tw_763 dJ0_checkIndex_df160_2 (fun o1 => ?_)
  have hf := hf o1
  refine q_backI0 X hH (q_runS [.int a0, .int a1, va_rf o1] [] X hH hl (c_J3_checkIndex_8e157 l D cy G X.2.2.2.1 S a0 a1 o1 _ _ hf) mf_J3_checkIndex_8e157 tw_787 tw_786 ⟨Nat.le_of_ble_eq_true rfl, Nat.le_of_ble_eq_true rfl⟩ rfl (Nat.le_of_ble_eq_true rfl) dJ0_checkIndex_df160_5 ⟨Nat.le_of_ble_eq_true rfl, Nat.le_of_ble_eq_true rfl⟩) (fun v3 S2 hf H locs hH => ?_)
  refine lv_pop hx hb dJ0_checkIndex_df160_8 rfl ?_
  exact q_retV X hH hr hlk hf (Nat.zero_le _) (Nat.zero_le _) dJ0_checkIndex_df160_9
-- J5_ensureCapacityInternal_d00df
def f_J5_ensureCapacityInternal_d00df (S : PS) (a0 : Nat) (a1 : Int32) (bc bs : Nat) (post : PS → Prop) : Prop :=
  gR S a0 1 0 fun v1 => (
  lE S v1 fun v2 => (
  gI S a0 1 1 fun v3 => (
  if (a1 - (v2 >>> (v3 &&& 31))) ≤ 0 then
    post S
  else
    gR S a0 1 0 fun v5 => (
    isO S a0 1 (
    f_J5_newCapacity_0f7a4 S a0 a1 fun v7 S6 => (
    gI S6 a0 1 1 fun v8 => (
    ∃ mc10 ms10 : Nat, mc10 ≤ bc ∧ ms10 ≤ bs ∧ (f_J7_copyOf_9075b S6 v5 (v7 <<< (v8 &&& 31)) mc10 ms10 fun v11 S9 => (
    pV S9 a0 1 0 (.ref v11) fun S12 => (
    post S12))))))))))
abbrev rm_J5_ensureCapacityInternal_d00df (mc ms : Nat) : Room := { frames := 3, cells := mc, slots := ms, locals := 82 }
set_option maxHeartbeats 4000000 in
set_option maxRecDepth 100000 in
theorem c_J5_ensureCapacityInternal_d00df (l : Launch) (D : va_G) (cy : Nat → ClassId) (G : p_GT) (hG : p_ok G) (hGU : ∀ (A : Nat → Prop) (U : State) (H : Heap), G A U H → gU A U H) (S : PS) (a0 : Nat) (a1 : Int32) (mc ms : Nat) (post : PS → Prop) (sz : Nat) (hf : f_J5_ensureCapacityInternal_d00df S a0 a1 mc ms post) : p_Mv l D cy G S sz yJ5_ensureCapacityInternal_d00df (Cond.code yJ5_ensureCapacityInternal_d00df cJ5_ensureCapacityInternal_d00df 3 none :: wG) (rm_J5_ensureCapacityInternal_d00df mc ms) [.ref a0, .int a1] mc ms post := by
  refine q_start hG (Qc := fun A => va_Qv post (p_Post D cy A) A) mf_J5_ensureCapacityInternal_d00df (Nat.le_of_ble_eq_true rfl) (own := RJ5) rfl ?_
  intro p e s m below meth c A X hr hlk hnm ls hl hH
  have hx := X.1.1
  have hb := X.1.2.1
  replace hl : lv_has ls 3 [(0, .ref a0), (1, .int a1)] := hl
  have main : ∀ (H : Heap) (locs : List Loc) (ls : Array Slot) (cells slots bc bs : Nat), f_J5_ensureCapacityInternal_d00df S a0 a1 bc bs post → p_H D cy S A s H locs → lv_has ls 3 [(0, .ref a0), (1, .int a1)] → cells + bc ≤ mc ∧ slots + bs ≤ ms → W p l e (rm_J5_ensureCapacityInternal_d00df mc ms) s m [.ref a0, .int a1].toArray below meth c H locs cells slots (MQ below (va_Qv post (p_Post D cy A) A) [.ref a0, .int a1].toArray s mc ms A) (F0 m 0 ls []) := by
    intro H locs ls cells slots bc bs hf hH hl hB
    refine lv_aload_n hx hb dJ5_ensureCapacityInternal_d00df_0 rfl (lv_at hl 0 rfl) ?_
    refine q_getR (T := TJ4) (N := 4) X hH hf iw_J4 rfl (by decide) tw_195 (fun _ h => h) dJ5_ensureCapacityInternal_d00df_1 (fun v1 hf => ?_)
    refine q_alen X hH hf dJ5_ensureCapacityInternal_d00df_4 (fun v2 hf => ?_)
    refine lv_aload_n hx hb dJ5_ensureCapacityInternal_d00df_5 rfl (lv_at hl 0 rfl) ?_
    refine q_getI (T := TJ4) (N := 4) X hH hf iw_J4 rfl (by decide) tw_196 (fun _ h => h) dJ5_ensureCapacityInternal_d00df_6 (fun v3 hf => ?_)
    refine lv_ishr hx hb dJ5_ensureCapacityInternal_d00df_9 ?_
    refine lv_istore_n (lv' := [(2, .int (v2 >>> (v3 &&& 31))), (0, .ref a0), (1, .int a1)]) hx hb dJ5_ensureCapacityInternal_d00df_10 rfl hl (by decide) rfl (fun ls hl => ?_)
    refine lv_iload_n hx hb dJ5_ensureCapacityInternal_d00df_11 rfl (lv_at hl 2 rfl) ?_
    refine lv_iload_n hx hb dJ5_ensureCapacityInternal_d00df_12 rfl (lv_at hl 0 rfl) ?_
    refine lv_isub hx hb dJ5_ensureCapacityInternal_d00df_13 ?_
    refine lv_if_le (tgt := 38) hx hb dJ5_ensureCapacityInternal_d00df_14 (by decide) (fun c4 => ?_) (fun c4 => ?_)
    · have hf := (if_pos c4).mp hf
      exact q_retV X hH hr hlk hf (Nat.le_trans (Nat.le_add_right _ _) hB.1) (Nat.le_trans (Nat.le_add_right _ _) hB.2) dJ5_ensureCapacityInternal_d00df_38
    · have hf := (if_neg c4).mp hf
      refine lv_aload_n hx hb dJ5_ensureCapacityInternal_d00df_17 rfl (lv_at hl 1 rfl) ?_
      refine lv_aload_n hx hb dJ5_ensureCapacityInternal_d00df_18 rfl (lv_at hl 1 rfl) ?_
      refine q_getR (T := TJ4) (N := 4) X hH hf iw_J4 rfl (by decide) tw_195 (fun _ h => h) dJ5_ensureCapacityInternal_d00df_19 (fun v5 hf => ?_)
      refine lv_aload_n hx hb dJ5_ensureCapacityInternal_d00df_22 rfl (lv_at hl 1 rfl) ?_
      refine lv_iload_n hx hb dJ5_ensureCapacityInternal_d00df_23 rfl (lv_at hl 2 rfl) ?_
      obtain ⟨hb1, hb2, hf⟩ := hf
      refine q_backI0 X hH (q_runU [.int a1] [.ref v5, .ref a0] X hH hl (c_J5_newCapacity_0f7a4 l D cy G X.2.2.2.1 S a0 a1 _ _ hf) mf_J5_newCapacity_0f7a4 ⟨tw_679, tw_1302⟩ (va_Nw.use rfl (hGU _ _ _ X.2.2.2.2).2) tw_677 ⟨Nat.le_of_ble_eq_true rfl, Nat.le_of_ble_eq_true rfl⟩ hb1 hb2 rfl (Nat.le_of_ble_eq_true rfl) dJ5_ensureCapacityInternal_d00df_24 ⟨Nat.le_trans (Nat.le_add_right _ _) hB.1, Nat.le_trans (Nat.le_add_right _ _) hB.2⟩) (fun v7 S6 hf H locs hH => ?_)
      refine lv_aload_n hx hb dJ5_ensureCapacityInternal_d00df_27 rfl (lv_at hl 1 rfl) ?_
      refine q_getI (T := TJ4) (N := 4) X hH hf iw_J4 rfl (by decide) tw_196 (fun _ h => h) dJ5_ensureCapacityInternal_d00df_28 (fun v8 hf => ?_)
      refine lv_ishl hx hb dJ5_ensureCapacityInternal_d00df_31 ?_
      obtain ⟨mc10, ms10, hm1, hs1, hf⟩ := hf
      refine q_backRB X hH hB hm1 hs1 (q_runS [.ref v5, .int (v7 <<< (v8 &&& 31))] [.ref a0] X hH hl (c_J7_copyOf_9075b l D cy G X.2.2.2.1 S6 v5 (v7 <<< (v8 &&& 31)) mc10 ms10 _ _ hf) mf_J7_copyOf_9075b tw_691 tw_690 ⟨Nat.le_of_ble_eq_true rfl, Nat.le_of_ble_eq_true rfl⟩ rfl (Nat.le_of_ble_eq_true rfl) dJ5_ensureCapacityInternal_d00df_32 ⟨Nat.le_trans (Nat.add_le_add_left hm1 _) hB.1, Nat.le_trans (Nat.add_le_add_left hs1 _) hB.2⟩) (fun v11 S9 hf H locs cells slots hH hB => ?_)
      refine q_putV (T := TJ4) (N := 4) (ty0 := tyJ4) (ty := tyJ4 0) X hH hf iw_J4 tyJ4_ok nmJ4 rfl (by decide) tw_195 (fun _ h => h) rfl (tyJ4_ok 0 (by decide)) rfl rfl dJ5_ensureCapacityInternal_d00df_35 (fun S12 hf H locs hH => ?_)
      exact q_retV X hH hr hlk hf (Nat.le_trans (Nat.le_add_right _ _) hB.1) (Nat.le_trans (Nat.le_add_right _ _) hB.2) dJ5_ensureCapacityInternal_d00df_38
  exact main s.heap [] ls 0 0 mc ms hf hH hl ⟨by omega, by omega⟩
-- J5_setLength_d00df
def f_J5_setLength_d00df_J76 (post : PS → Prop) (S : PS) (bc bs : Nat) (l0 : Nat) (l1 : Int32) : Prop :=
  pV S l0 1 3 (.int l1) fun S1 => (
  post S1)
def f_J5_setLength_d00df (S : PS) (a0 : Nat) (a1 : Int32) (bc bs : Nat) (post : PS → Prop) : Prop :=
  if 0 ≤ a1 then
    isO S a0 1 (
    ∃ mc3 ms3 : Nat, mc3 ≤ bc ∧ ms3 ≤ bs ∧ (f_J5_ensureCapacityInternal_d00df S a0 a1 mc3 ms3 fun S2 => (
    gI S2 a0 1 3 fun v5 => (
    if a1 ≤ v5 then
      gI S2 a0 1 3 fun v7 => (
      if v7 ≤ a1 then
        f_J5_setLength_d00df_J76 post S2 (bc - mc3) (bs - ms3) a0 a1
      else
        pV S2 a0 1 2 (.int 1) fun S9 => (
        f_J5_setLength_d00df_J76 post S9 (bc - mc3) (bs - ms3) a0 a1))
    else
      False))))
  else
    False
abbrev rm_J5_setLength_d00df (mc ms : Nat) : Room := { frames := 4, cells := mc, slots := ms, locals := 104 }
set_option maxHeartbeats 4000000 in
set_option maxRecDepth 100000 in
theorem c_J5_setLength_d00df (l : Launch) (D : va_G) (cy : Nat → ClassId) (G : p_GT) (hG : p_ok G) (hGU : ∀ (A : Nat → Prop) (U : State) (H : Heap), G A U H → gU A U H) (S : PS) (a0 : Nat) (a1 : Int32) (mc ms : Nat) (post : PS → Prop) (sz : Nat) (hf : f_J5_setLength_d00df S a0 a1 mc ms post) : p_Mv l D cy G S sz yJ5_setLength_d00df (Cond.code yJ5_setLength_d00df cJ5_setLength_d00df 2 none :: wG) (rm_J5_setLength_d00df mc ms) [.ref a0, .int a1] mc ms post := by
  refine q_start hG (Qc := fun A => va_Qv post (p_Post D cy A) A) mf_J5_setLength_d00df (Nat.le_of_ble_eq_true rfl) (own := RJ5) rfl ?_
  intro p e s m below meth c A X hr hlk hnm ls hl hH
  have hx := X.1.1
  have hb := X.1.2.1
  replace hl : lv_has ls 2 [(0, .ref a0), (1, .int a1)] := hl
  have main : ∀ (H : Heap) (locs : List Loc) (ls : Array Slot) (cells slots bc bs : Nat), f_J5_setLength_d00df S a0 a1 bc bs post → p_H D cy S A s H locs → lv_has ls 2 [(0, .ref a0), (1, .int a1)] → cells + bc ≤ mc ∧ slots + bs ≤ ms → W p l e (rm_J5_setLength_d00df mc ms) s m [.ref a0, .int a1].toArray below meth c H locs cells slots (MQ below (va_Qv post (p_Post D cy A) A) [.ref a0, .int a1].toArray s mc ms A) (F0 m 0 ls []) := by
    intro H locs ls cells slots bc bs hf hH hl hB
    have hJ76 : ∀ (S : PS) (bc bs : Nat) (l0 : Nat) (l1 : Int32), f_J5_setLength_d00df_J76 post S bc bs l0 l1 → ∀ (H : Heap) (locs : List Loc) (ls : Array Slot) (cells slots : Nat), p_H D cy S A s H locs → lv_has ls 2 [(0, .ref l0), (1, .int l1)] → cells + bc ≤ mc ∧ slots + bs ≤ ms → W p l e (rm_J5_setLength_d00df mc ms) s m [.ref a0, .int a1].toArray below meth c H locs cells slots (MQ below (va_Qv post (p_Post D cy A) A) [.ref a0, .int a1].toArray s mc ms A) (F0 m 76 ls []) := by
      intro S bc bs l0 l1 hf H locs ls cells slots hH hl hB
      refine lv_aload_n hx hb dJ5_setLength_d00df_76 rfl (lv_at hl 0 rfl) ?_
      refine lv_iload_n hx hb dJ5_setLength_d00df_77 rfl (lv_at hl 1 rfl) ?_
      refine q_putV (T := TJ4) (N := 4) (ty0 := tyJ4) (ty := tyJ4 3) X hH hf iw_J4 tyJ4_ok nmJ4 rfl (by decide) tw_199 (fun _ h => h) rfl (tyJ4_ok 3 (by decide)) rfl rfl dJ5_setLength_d00df_78 (fun S1 hf H locs hH => ?_)
      exact q_retV X hH hr hlk hf (Nat.le_trans (Nat.le_add_right _ _) hB.1) (Nat.le_trans (Nat.le_add_right _ _) hB.2) dJ5_setLength_d00df_81
    refine lv_iload_n hx hb dJ5_setLength_d00df_0 rfl (lv_at hl 1 rfl) ?_
    refine lv_if_ge (tgt := 13) hx hb dJ5_setLength_d00df_1 (by decide) (fun c1 => ?_) (fun c1 => ?_)
    · have hf := (if_pos c1).mp hf
      refine lv_aload_n hx hb dJ5_setLength_d00df_13 rfl (lv_at hl 0 rfl) ?_
      refine lv_iload_n hx hb dJ5_setLength_d00df_14 rfl (lv_at hl 1 rfl) ?_
      obtain ⟨hb1, hb2, hf⟩ := hf
      obtain ⟨mc3, ms3, hm1, hs1, hf⟩ := hf
      refine q_backVB X hH hB hm1 hs1 (q_runU [.int a1] [] X hH hl (c_J5_ensureCapacityInternal_d00df l D cy G X.2.2.2.1 hGU S a0 a1 mc3 ms3 _ _ hf) mf_J5_ensureCapacityInternal_d00df ⟨tw_675, tw_1301⟩ (va_Nw.use rfl (hGU _ _ _ X.2.2.2.2).1) tw_673 ⟨Nat.le_of_ble_eq_true rfl, Nat.le_of_ble_eq_true rfl⟩ hb1 hb2 rfl (Nat.le_of_ble_eq_true rfl) dJ5_setLength_d00df_15 ⟨Nat.le_trans (Nat.add_le_add_left hm1 _) hB.1, Nat.le_trans (Nat.add_le_add_left hs1 _) hB.2⟩) (fun S2 hf H locs cells slots hH hB => ?_)
      refine lv_aload_n hx hb dJ5_setLength_d00df_18 rfl (lv_at hl 0 rfl) ?_
      refine q_getI (T := TJ4) (N := 4) X hH hf iw_J4 rfl (by decide) tw_199 (fun _ h => h) dJ5_setLength_d00df_19 (fun v5 hf => ?_)
      refine lv_iload_n hx hb dJ5_setLength_d00df_22 rfl (lv_at hl 1 rfl) ?_
      refine lv_icmp_ge (tgt := 63) hx hb dJ5_setLength_d00df_23 (by decide) (fun c6 => ?_) (fun c6 => ?_)
      · have hf := (if_pos c6).mp hf
        refine lv_aload_n hx hb dJ5_setLength_d00df_63 rfl (lv_at hl 0 rfl) ?_
        refine q_getI (T := TJ4) (N := 4) X hH hf iw_J4 rfl (by decide) tw_199 (fun _ h => h) dJ5_setLength_d00df_64 (fun v7 hf => ?_)
        refine lv_iload_n hx hb dJ5_setLength_d00df_67 rfl (lv_at hl 1 rfl) ?_
        refine lv_icmp_le (tgt := 76) hx hb dJ5_setLength_d00df_68 (by decide) (fun c8 => ?_) (fun c8 => ?_)
        · have hf := (if_pos c8).mp hf
          exact hJ76 S2 (bc - mc3) (bs - ms3) a0 a1 hf H locs ls cells slots hH hl hB
        · have hf := (if_neg c8).mp hf
          refine lv_aload_n hx hb dJ5_setLength_d00df_71 rfl (lv_at hl 0 rfl) ?_
          refine lv_iconst (v := 1) hx hb dJ5_setLength_d00df_72 (by decide) ?_
          refine q_putV (T := TJ4) (N := 4) (ty0 := tyJ4) (ty := tyJ4 2) X hH hf iw_J4 tyJ4_ok nmJ4 rfl (by decide) tw_197 (fun _ h => h) rfl (tyJ4_ok 2 (by decide)) rfl rfl dJ5_setLength_d00df_73 (fun S9 hf H locs hH => ?_)
          exact hJ76 S9 (bc - mc3) (bs - ms3) a0 a1 hf H locs ls cells slots hH hl hB
      · have hf := (if_neg c6).mp hf
        exact hf.elim
    · have hf := (if_neg c1).mp hf
      exact hf.elim
  exact main s.heap [] ls 0 0 mc ms hf hH hl ⟨by omega, by omega⟩
-- J5_charAt_5068e
def f_J5_charAt_5068e (S : PS) (a0 : Nat) (a1 : Int32) (post : Int32 → PS → Prop) : Prop :=
  gI S a0 1 1 fun v1 => (
  gR S a0 1 0 fun v2 => (
  gI S a0 1 3 fun v3 => (
  lE S v2 fun v4 => (
  f_J0_checkIndex_df160 S a1 (if (v4 >>> (v1 &&& 31)) < v3 then (v4 >>> (v1 &&& 31)) else v3) fun S5 => (
  if v1 = 0 then
    aI S5 v2 1 a1 fun v8 => (
    nZ .char (((v8 &&& 255).toUInt32 % 65536).toInt32) (post (((v8 &&& 255).toUInt32 % 65536).toInt32) S5))
  else
    False)))))
abbrev rm_J5_charAt_5068e : Room := { frames := 2, cells := 0, slots := 0, locals := 43 }
set_option maxHeartbeats 4000000 in
set_option maxRecDepth 100000 in
theorem c_J5_charAt_5068e (l : Launch) (D : va_G) (cy : Nat → ClassId) (G : p_GT) (hG : p_ok G) (hGF : ∀ (A : Nat → Prop) (U : State) (H : Heap), G A U H → gF A U H) (S : PS) (a0 : Nat) (a1 : Int32) (post : Int32 → PS → Prop) (sz : Nat) (hf : f_J5_charAt_5068e S a0 a1 post) : p_Mi l D cy G S sz yJ5_charAt_5068e (Cond.code yJ5_charAt_5068e cJ5_charAt_5068e 5 (some .char) :: wG) rm_J5_charAt_5068e [.ref a0, .int a1] 0 0 post := by
  refine q_start hG (Qc := fun A => va_Qi post (p_Post D cy A) A) mf_J5_charAt_5068e (Nat.le_of_ble_eq_true rfl) (own := RJ5) rfl ?_
  intro p e s m below meth c A X hr hlk hnm ls hl hH
  have hx := X.1.1
  have hb := X.1.2.1
  replace hl : lv_has ls 5 [(0, .ref a0), (1, .int a1)] := hl
  obtain ⟨H, hHe⟩ : ∃ H, H = s.heap := ⟨_, rfl⟩
  obtain ⟨locs, hlo⟩ : ∃ locs : List Loc, locs = [] := ⟨_, rfl⟩
  rw [← hHe, ← hlo] at hH
  show W p l e rm_J5_charAt_5068e s m [.ref a0, .int a1].toArray below meth c s.heap [] 0 0 _ _
  rw [← hHe, ← hlo]
  refine lv_aload_n hx hb dJ5_charAt_5068e_0 rfl (lv_at hl 0 rfl) ?_
  refine q_getI (T := TJ4) (N := 4) X hH hf iw_J4 rfl (by decide) tw_196 (fun _ h => h) dJ5_charAt_5068e_1 (fun v1 hf => ?_)
  refine lv_istore_n (lv' := [(2, .int v1), (0, .ref a0), (1, .int a1)]) hx hb dJ5_charAt_5068e_4 rfl hl (by decide) rfl (fun ls hl => ?_)
  refine lv_aload_n hx hb dJ5_charAt_5068e_5 rfl (lv_at hl 1 rfl) ?_
  refine q_getR (T := TJ4) (N := 4) X hH hf iw_J4 rfl (by decide) tw_195 (fun _ h => h) dJ5_charAt_5068e_6 (fun v2 hf => ?_)
  refine lv_astore_n (lv' := [(3, .ref v2), (2, .int v1), (0, .ref a0), (1, .int a1)]) hx hb dJ5_charAt_5068e_9 rfl hl (by decide) rfl (fun ls hl => ?_)
  refine lv_aload_n hx hb dJ5_charAt_5068e_10 rfl (lv_at hl 2 rfl) ?_
  refine q_getI (T := TJ4) (N := 4) X hH hf iw_J4 rfl (by decide) tw_199 (fun _ h => h) dJ5_charAt_5068e_11 (fun v3 hf => ?_)
  refine lv_aload_n hx hb dJ5_charAt_5068e_14 rfl (lv_at hl 0 rfl) ?_
  refine q_alen X hH hf dJ5_charAt_5068e_15 (fun v4 hf => ?_)
  refine lv_iload_n hx hb dJ5_charAt_5068e_16 rfl (lv_at hl 1 rfl) ?_
  refine lv_ishr hx hb dJ5_charAt_5068e_17 ?_
  refine q_mmin X hl tw_1185 tw_496 tw_47 tw_497 ⟨Nat.le_of_ble_eq_true rfl, Nat.le_of_ble_eq_true rfl⟩ (Nat.le_of_ble_eq_true rfl) (Nat.zero_le _) (Nat.zero_le _) dJ5_charAt_5068e_18 ?_
  refine lv_istore (lv' := [(4, .int ((if (v4 >>> (v1 &&& 31)) < v3 then (v4 >>> (v1 &&& 31)) else v3))), (3, .ref v2), (2, .int v1), (0, .ref a0), (1, .int a1)]) hx hb dJ5_charAt_5068e_21 hl (by decide) rfl (fun ls hl => ?_)
  refine lv_iload_n hx hb dJ5_charAt_5068e_23 rfl (lv_at hl 4 rfl) ?_
  refine lv_iload hx hb dJ5_charAt_5068e_24 (lv_at hl 0 rfl) ?_
  refine q_backV0 X hH (q_runS [.int a1, .int ((if (v4 >>> (v1 &&& 31)) < v3 then (v4 >>> (v1 &&& 31)) else v3))] [] X hH hl (c_J0_checkIndex_df160 l D cy G X.2.2.2.1 hGF S a1 (if (v4 >>> (v1 &&& 31)) < v3 then (v4 >>> (v1 &&& 31)) else v3) _ _ hf) mf_J0_checkIndex_df160 tw_784 tw_1186 ⟨Nat.le_of_ble_eq_true rfl, Nat.le_of_ble_eq_true rfl⟩ rfl (Nat.le_of_ble_eq_true rfl) dJ5_charAt_5068e_26 ⟨Nat.le_of_ble_eq_true rfl, Nat.le_of_ble_eq_true rfl⟩) (fun S5 hf H locs hH => ?_)
  refine lv_iload_n hx hb dJ5_charAt_5068e_29 rfl (lv_at hl 2 rfl) ?_
  refine lv_if_ne (tgt := 42) hx hb dJ5_charAt_5068e_30 (by decide) (fun c7 => ?_) (fun c7 => ?_)
  · have hf := (if_neg c7).mp hf
    exact hf.elim
  · have hf := (if_pos c7).mp hf
    refine lv_aload_n hx hb dJ5_charAt_5068e_33 rfl (lv_at hl 1 rfl) ?_
    refine lv_iload_n hx hb dJ5_charAt_5068e_34 rfl (lv_at hl 4 rfl) ?_
    refine q_bald X hH hf dJ5_charAt_5068e_35 (fun v8 hf => ?_)
    refine lv_sipush (v := 255) hx hb dJ5_charAt_5068e_36 (by decide) ?_
    refine lv_iand hx hb dJ5_charAt_5068e_39 ?_
    refine lv_i2c (v := ((v8 &&& 255).toUInt32 % 65536).toInt32) hx hb dJ5_charAt_5068e_40 rfl ?_
    exact q_retZ X hH hr hlk hf (Nat.zero_le _) (Nat.zero_le _) dJ5_charAt_5068e_41
-- J5_append_3fe6f
def f_J5_append_3fe6f_J45 (post : Nat → PS → Prop) (S : PS) (bc bs : Nat) (l0 : Nat) : Prop :=
  False
def f_J5_append_3fe6f (S : PS) (a0 : Nat) (a1 : Int32) (bc bs : Nat) (post : Nat → PS → Prop) : Prop :=
  gI S a0 1 3 fun v1 => (
  isO S a0 1 (
  ∃ mc3 ms3 : Nat, mc3 ≤ bc ∧ ms3 ≤ bs ∧ (f_J5_ensureCapacityInternal_d00df S a0 (v1 + 1) mc3 ms3 fun S2 => (
  isO S2 a0 1 (
  f_J5_isLatin1_aae02 S2 a0 fun v6 S5 => (
  if v6 = 0 then
    f_J5_append_3fe6f_J45 post S5 (bc - mc3) (bs - ms3) a0
  else
    f_J1_canEncode_fc78d S5 a1 fun v9 S8 => (
    if v9 = 0 then
      f_J5_append_3fe6f_J45 post S8 (bc - mc3) (bs - ms3) a0
    else
      gR S8 a0 1 0 fun v11 => (
      gI S8 a0 1 3 fun v12 => (
      pV S8 a0 1 3 (.int (v12 + 1)) fun S13 => (
      sI S13 v11 1 v12 (vp_nar .byte ((a1).toInt8.toInt32)) fun S14 => (
      post a0 S14)))))))))))
abbrev rm_J5_append_3fe6f (mc ms : Nat) : Room := { frames := 4, cells := mc, slots := ms, locals := 104 }
set_option maxHeartbeats 4000000 in
set_option maxRecDepth 100000 in
theorem c_J5_append_3fe6f (l : Launch) (D : va_G) (cy : Nat → ClassId) (G : p_GT) (hG : p_ok G) (hGC : ∀ (A : Nat → Prop) (U : State) (H : Heap), G A U H → gC A U H) (hGU : ∀ (A : Nat → Prop) (U : State) (H : Heap), G A U H → gU A U H) (S : PS) (a0 : Nat) (a1 : Int32) (mc ms : Nat) (post : Nat → PS → Prop) (sz : Nat) (hf : f_J5_append_3fe6f S a0 a1 mc ms post) : p_Mr l D cy G S sz yJ5_append_3fe6f (Cond.code yJ5_append_3fe6f cJ5_append_3fe6f 2 (some (.object "java/lang/AbstractStringBuilder")) :: wG) (rm_J5_append_3fe6f mc ms) [.ref a0, .int a1] mc ms post := by
  refine q_start hG (Qc := fun A => p_Qr D cy post A) mf_J5_append_3fe6f (Nat.le_of_ble_eq_true rfl) (own := RJ5) rfl ?_
  intro p e s m below meth c A X hr hlk hnm ls hl hH
  have hx := X.1.1
  have hb := X.1.2.1
  replace hl : lv_has ls 2 [(0, .ref a0), (1, .int a1)] := hl
  have main : ∀ (H : Heap) (locs : List Loc) (ls : Array Slot) (cells slots bc bs : Nat), f_J5_append_3fe6f S a0 a1 bc bs post → p_H D cy S A s H locs → lv_has ls 2 [(0, .ref a0), (1, .int a1)] → cells + bc ≤ mc ∧ slots + bs ≤ ms → W p l e (rm_J5_append_3fe6f mc ms) s m [.ref a0, .int a1].toArray below meth c H locs cells slots (MQ below (p_Qr D cy post A) [.ref a0, .int a1].toArray s mc ms A) (F0 m 0 ls []) := by
    intro H locs ls cells slots bc bs hf hH hl hB
    have hJ45 : ∀ (S : PS) (bc bs : Nat) (l0 : Nat), f_J5_append_3fe6f_J45 post S bc bs l0 → ∀ (H : Heap) (locs : List Loc) (ls : Array Slot) (cells slots : Nat), p_H D cy S A s H locs → lv_has ls 2 [(0, .ref l0)] → cells + bc ≤ mc ∧ slots + bs ≤ ms → W p l e (rm_J5_append_3fe6f mc ms) s m [.ref a0, .int a1].toArray below meth c H locs cells slots (MQ below (p_Qr D cy post A) [.ref a0, .int a1].toArray s mc ms A) (F0 m 45 ls []) := by
      intro S bc bs l0 hf H locs ls cells slots hH hl hB
      exact hf.elim
    refine lv_aload_n hx hb dJ5_append_3fe6f_0 rfl (lv_at hl 0 rfl) ?_
    refine lv_aload_n hx hb dJ5_append_3fe6f_1 rfl (lv_at hl 0 rfl) ?_
    refine q_getI (T := TJ4) (N := 4) X hH hf iw_J4 rfl (by decide) tw_199 (fun _ h => h) dJ5_append_3fe6f_2 (fun v1 hf => ?_)
    refine lv_iconst (v := 1) hx hb dJ5_append_3fe6f_5 (by decide) ?_
    refine lv_iadd hx hb dJ5_append_3fe6f_6 ?_
    obtain ⟨hb1, hb2, hf⟩ := hf
    obtain ⟨mc3, ms3, hm1, hs1, hf⟩ := hf
    refine q_backVB X hH hB hm1 hs1 (q_runU [.int (v1 + 1)] [] X hH hl (c_J5_ensureCapacityInternal_d00df l D cy G X.2.2.2.1 hGU S a0 (v1 + 1) mc3 ms3 _ _ hf) mf_J5_ensureCapacityInternal_d00df ⟨tw_675, tw_1301⟩ (va_Nw.use rfl (hGU _ _ _ X.2.2.2.2).1) tw_673 ⟨Nat.le_of_ble_eq_true rfl, Nat.le_of_ble_eq_true rfl⟩ hb1 hb2 rfl (Nat.le_of_ble_eq_true rfl) dJ5_append_3fe6f_7 ⟨Nat.le_trans (Nat.add_le_add_left hm1 _) hB.1, Nat.le_trans (Nat.add_le_add_left hs1 _) hB.2⟩) (fun S2 hf H locs cells slots hH hB => ?_)
    refine lv_aload_n hx hb dJ5_append_3fe6f_10 rfl (lv_at hl 0 rfl) ?_
    obtain ⟨hb1, hb2, hf⟩ := hf
    refine q_backI0 X hH (q_runU [] [] X hH hl (c_J5_isLatin1_aae02 l D cy G X.2.2.2.1 hGC S2 a0 _ _ hf) mf_J5_isLatin1_aae02 ⟨tw_705, tw_706⟩ (X.1.2.2.2.2 _ tw_707) tw_704 ⟨Nat.le_of_ble_eq_true rfl, Nat.le_of_ble_eq_true rfl⟩ hb1 hb2 rfl (Nat.le_of_ble_eq_true rfl) dJ5_append_3fe6f_11 ⟨Nat.le_trans (Nat.le_add_right _ _) hB.1, Nat.le_trans (Nat.le_add_right _ _) hB.2⟩) (fun v6 S5 hf H locs hH => ?_)
    refine lv_if_eq (tgt := 45) hx hb dJ5_append_3fe6f_14 (by decide) (fun c7 => ?_) (fun c7 => ?_)
    · have hf := (if_pos c7).mp hf
      exact hJ45 S5 (bc - mc3) (bs - ms3) a0 hf H locs ls cells slots hH (lv_sub hl [0] rfl) hB
    · have hf := (if_neg c7).mp hf
      refine lv_iload_n hx hb dJ5_append_3fe6f_17 rfl (lv_at hl 1 rfl) ?_
      refine q_backI0 X hH (q_runS [.int a1] [] X hH hl (c_J1_canEncode_fc78d l D cy G X.2.2.2.1 S5 a1 _ _ hf) mf_J1_canEncode_fc78d tw_742 tw_741 ⟨Nat.le_of_ble_eq_true rfl, Nat.le_of_ble_eq_true rfl⟩ rfl (Nat.le_of_ble_eq_true rfl) dJ5_append_3fe6f_18 ⟨Nat.le_trans (Nat.le_add_right _ _) hB.1, Nat.le_trans (Nat.le_add_right _ _) hB.2⟩) (fun v9 S8 hf H locs hH => ?_)
      refine lv_if_eq (tgt := 45) hx hb dJ5_append_3fe6f_21 (by decide) (fun c10 => ?_) (fun c10 => ?_)
      · have hf := (if_pos c10).mp hf
        exact hJ45 S8 (bc - mc3) (bs - ms3) a0 hf H locs ls cells slots hH (lv_sub hl [0] rfl) hB
      · have hf := (if_neg c10).mp hf
        refine lv_aload_n hx hb dJ5_append_3fe6f_24 rfl (lv_at hl 0 rfl) ?_
        refine q_getR (T := TJ4) (N := 4) X hH hf iw_J4 rfl (by decide) tw_195 (fun _ h => h) dJ5_append_3fe6f_25 (fun v11 hf => ?_)
        refine lv_aload_n hx hb dJ5_append_3fe6f_28 rfl (lv_at hl 0 rfl) ?_
        refine lv_dup hx hb dJ5_append_3fe6f_29 rfl ?_
        refine q_getI (T := TJ4) (N := 4) X hH hf iw_J4 rfl (by decide) tw_199 (fun _ h => h) dJ5_append_3fe6f_30 (fun v12 hf => ?_)
        refine lv_dup_x1 hx hb dJ5_append_3fe6f_33 rfl rfl ?_
        refine lv_iconst (v := 1) hx hb dJ5_append_3fe6f_34 (by decide) ?_
        refine lv_iadd hx hb dJ5_append_3fe6f_35 ?_
        refine q_putV (T := TJ4) (N := 4) (ty0 := tyJ4) (ty := tyJ4 3) X hH hf iw_J4 tyJ4_ok nmJ4 rfl (by decide) tw_199 (fun _ h => h) rfl (tyJ4_ok 3 (by decide)) rfl rfl dJ5_append_3fe6f_36 (fun S13 hf H locs hH => ?_)
        refine lv_iload_n hx hb dJ5_append_3fe6f_39 rfl (lv_at hl 1 rfl) ?_
        refine lv_i2b (v := (a1).toInt8.toInt32) hx hb dJ5_append_3fe6f_40 rfl ?_
        refine q_bast X hH hf dJ5_append_3fe6f_41 (fun S14 hf H locs hH => ?_)
        refine lv_goto (tgt := 75) hx hb dJ5_append_3fe6f_42 (by decide) ?_
        refine lv_aload_n hx hb dJ5_append_3fe6f_75 rfl (lv_at hl 0 rfl) ?_
        exact q_retR X hH hr (Or.inl ⟨_, rfl⟩) hlk hf (Nat.le_trans (Nat.le_add_right _ _) hB.1) (Nat.le_trans (Nat.le_add_right _ _) hB.2) dJ5_append_3fe6f_76
  exact main s.heap [] ls 0 0 mc ms hf hH hl ⟨by omega, by omega⟩
-- J5_append_c97b9
def f_J5_append_c97b9 (S : PS) (a0 : Nat) (a1 : Int32) (bc bs : Nat) (post : Nat → PS → Prop) : Prop :=
  gI S a0 1 3 fun v1 => (
  f_J6_stringSize_0f7a4 S a1 fun v3 S2 => (
  isO S2 a0 1 (
  ∃ mc5 ms5 : Nat, mc5 ≤ bc ∧ ms5 ≤ bs ∧ (f_J5_ensureCapacityInternal_d00df S2 a0 (v1 + v3) mc5 ms5 fun S4 => (
  isO S4 a0 1 (
  f_J5_isLatin1_aae02 S4 a0 fun v8 S7 => (
  if v8 = 0 then
    False
  else
    gR S7 a0 1 0 fun v10 => (
    f_J6_getChars_ba4f3 S7 a1 (v1 + v3) v10 fun v12 S11 => (
    pV S11 a0 1 3 (.int (v1 + v3)) fun S13 => (
    post a0 S13))))))))))
abbrev rm_J5_append_c97b9 (mc ms : Nat) : Room := { frames := 4, cells := mc, slots := ms, locals := 104 }
set_option maxHeartbeats 4000000 in
set_option maxRecDepth 100000 in
theorem c_J5_append_c97b9 (l : Launch) (D : va_G) (cy : Nat → ClassId) (G : p_GT) (hG : p_ok G) (hGC : ∀ (A : Nat → Prop) (U : State) (H : Heap), G A U H → gC A U H) (dT dO : Nat) (hGT : ∀ (A : Nat → Prop) (U : State) (H : Heap), G A U H → gT dT dO A U H) (hGU : ∀ (A : Nat → Prop) (U : State) (H : Heap), G A U H → gU A U H) (S : PS) (a0 : Nat) (a1 : Int32) (mc ms : Nat) (post : Nat → PS → Prop) (sz : Nat) (hf : f_J5_append_c97b9 S a0 a1 mc ms post) : p_Mr l D cy G S sz yJ5_append_c97b9 (Cond.code yJ5_append_c97b9 cJ5_append_c97b9 4 (some (.object "java/lang/AbstractStringBuilder")) :: wG) (rm_J5_append_c97b9 mc ms) [.ref a0, .int a1] mc ms post := by
  refine q_start hG (Qc := fun A => p_Qr D cy post A) mf_J5_append_c97b9 (Nat.le_of_ble_eq_true rfl) (own := RJ5) rfl ?_
  intro p e s m below meth c A X hr hlk hnm ls hl hH
  have hx := X.1.1
  have hb := X.1.2.1
  replace hl : lv_has ls 4 [(0, .ref a0), (1, .int a1)] := hl
  have main : ∀ (H : Heap) (locs : List Loc) (ls : Array Slot) (cells slots bc bs : Nat), f_J5_append_c97b9 S a0 a1 bc bs post → p_H D cy S A s H locs → lv_has ls 4 [(0, .ref a0), (1, .int a1)] → cells + bc ≤ mc ∧ slots + bs ≤ ms → W p l e (rm_J5_append_c97b9 mc ms) s m [.ref a0, .int a1].toArray below meth c H locs cells slots (MQ below (p_Qr D cy post A) [.ref a0, .int a1].toArray s mc ms A) (F0 m 0 ls []) := by
    intro H locs ls cells slots bc bs hf hH hl hB
    refine lv_aload_n hx hb dJ5_append_c97b9_0 rfl (lv_at hl 0 rfl) ?_
    refine q_getI (T := TJ4) (N := 4) X hH hf iw_J4 rfl (by decide) tw_199 (fun _ h => h) dJ5_append_c97b9_1 (fun v1 hf => ?_)
    refine lv_istore_n (lv' := [(2, .int v1), (0, .ref a0), (1, .int a1)]) hx hb dJ5_append_c97b9_4 rfl hl (by decide) rfl (fun ls hl => ?_)
    refine lv_iload_n hx hb dJ5_append_c97b9_5 rfl (lv_at hl 0 rfl) ?_
    refine lv_iload_n hx hb dJ5_append_c97b9_6 rfl (lv_at hl 2 rfl) ?_
    refine q_backI0 X hH (q_runS [.int a1] [.int v1] X hH hl (c_J6_stringSize_0f7a4 l D cy G X.2.2.2.1 S a1 _ _ hf) mf_J6_stringSize_0f7a4 tw_797 tw_796 ⟨Nat.le_of_ble_eq_true rfl, Nat.le_of_ble_eq_true rfl⟩ rfl (Nat.le_of_ble_eq_true rfl) dJ5_append_c97b9_7 ⟨Nat.le_trans (Nat.le_add_right _ _) hB.1, Nat.le_trans (Nat.le_add_right _ _) hB.2⟩) (fun v3 S2 hf H locs hH => ?_)
    refine lv_iadd hx hb dJ5_append_c97b9_10 ?_
    refine lv_istore_n (lv' := [(3, .int (v1 + v3)), (2, .int v1), (0, .ref a0), (1, .int a1)]) hx hb dJ5_append_c97b9_11 rfl hl (by decide) rfl (fun ls hl => ?_)
    refine lv_aload_n hx hb dJ5_append_c97b9_12 rfl (lv_at hl 2 rfl) ?_
    refine lv_iload_n hx hb dJ5_append_c97b9_13 rfl (lv_at hl 0 rfl) ?_
    obtain ⟨hb1, hb2, hf⟩ := hf
    obtain ⟨mc5, ms5, hm1, hs1, hf⟩ := hf
    refine q_backVB X hH hB hm1 hs1 (q_runU [.int (v1 + v3)] [] X hH hl (c_J5_ensureCapacityInternal_d00df l D cy G X.2.2.2.1 hGU S2 a0 (v1 + v3) mc5 ms5 _ _ hf) mf_J5_ensureCapacityInternal_d00df ⟨tw_675, tw_1301⟩ (va_Nw.use rfl (hGU _ _ _ X.2.2.2.2).1) tw_673 ⟨Nat.le_of_ble_eq_true rfl, Nat.le_of_ble_eq_true rfl⟩ hb1 hb2 rfl (Nat.le_of_ble_eq_true rfl) dJ5_append_c97b9_14 ⟨Nat.le_trans (Nat.add_le_add_left hm1 _) hB.1, Nat.le_trans (Nat.add_le_add_left hs1 _) hB.2⟩) (fun S4 hf H locs cells slots hH hB => ?_)
    refine lv_aload_n hx hb dJ5_append_c97b9_17 rfl (lv_at hl 2 rfl) ?_
    obtain ⟨hb1, hb2, hf⟩ := hf
    refine q_backI0 X hH (q_runU [] [] X hH hl (c_J5_isLatin1_aae02 l D cy G X.2.2.2.1 hGC S4 a0 _ _ hf) mf_J5_isLatin1_aae02 ⟨tw_705, tw_706⟩ (X.1.2.2.2.2 _ tw_707) tw_704 ⟨Nat.le_of_ble_eq_true rfl, Nat.le_of_ble_eq_true rfl⟩ hb1 hb2 rfl (Nat.le_of_ble_eq_true rfl) dJ5_append_c97b9_18 ⟨Nat.le_trans (Nat.le_add_right _ _) hB.1, Nat.le_trans (Nat.le_add_right _ _) hB.2⟩) (fun v8 S7 hf H locs hH => ?_)
    refine lv_if_eq (tgt := 37) hx hb dJ5_append_c97b9_21 (by decide) (fun c9 => ?_) (fun c9 => ?_)
    · have hf := (if_pos c9).mp hf
      exact hf.elim
    · have hf := (if_neg c9).mp hf
      refine lv_iload_n hx hb dJ5_append_c97b9_24 rfl (lv_at hl 3 rfl) ?_
      refine lv_iload_n hx hb dJ5_append_c97b9_25 rfl (lv_at hl 0 rfl) ?_
      refine lv_aload_n hx hb dJ5_append_c97b9_26 rfl (lv_at hl 2 rfl) ?_
      refine q_getR (T := TJ4) (N := 4) X hH hf iw_J4 rfl (by decide) tw_195 (fun _ h => h) dJ5_append_c97b9_27 (fun v10 hf => ?_)
      refine q_backI0 X hH (q_runS [.int a1, .int (v1 + v3), .ref v10] [] X hH hl (c_J6_getChars_ba4f3 l D cy G X.2.2.2.1 dT dO hGT S7 a1 (v1 + v3) v10 _ _ hf) mf_J6_getChars_ba4f3 tw_800 tw_799 ⟨Nat.le_of_ble_eq_true rfl, Nat.le_of_ble_eq_true rfl⟩ rfl (Nat.le_of_ble_eq_true rfl) dJ5_append_c97b9_30 ⟨Nat.le_trans (Nat.le_add_right _ _) hB.1, Nat.le_trans (Nat.le_add_right _ _) hB.2⟩) (fun v12 S11 hf H locs hH => ?_)
      refine lv_pop hx hb dJ5_append_c97b9_33 rfl ?_
      refine lv_goto (tgt := 48) hx hb dJ5_append_c97b9_34 (by decide) ?_
      refine lv_aload_n hx hb dJ5_append_c97b9_48 rfl (lv_at hl 2 rfl) ?_
      refine lv_iload_n hx hb dJ5_append_c97b9_49 rfl (lv_at hl 0 rfl) ?_
      refine q_putV (T := TJ4) (N := 4) (ty0 := tyJ4) (ty := tyJ4 3) X hH hf iw_J4 tyJ4_ok nmJ4 rfl (by decide) tw_199 (fun _ h => h) rfl (tyJ4_ok 3 (by decide)) rfl rfl dJ5_append_c97b9_50 (fun S13 hf H locs hH => ?_)
      refine lv_aload_n hx hb dJ5_append_c97b9_53 rfl (lv_at hl 2 rfl) ?_
      exact q_retR X hH hr (Or.inl ⟨_, rfl⟩) hlk hf (Nat.le_trans (Nat.le_add_right _ _) hB.1) (Nat.le_trans (Nat.le_add_right _ _) hB.2) dJ5_append_c97b9_54
  exact main s.heap [] ls 0 0 mc ms hf hH hl ⟨by omega, by omega⟩
-- J4_append_cf468
def f_J4_append_cf468 (S : PS) (a0 : Nat) (a1 : Int32) (bc bs : Nat) (post : Nat → PS → Prop) : Prop :=
  isO S a0 1 (
  ∃ mc2 ms2 : Nat, mc2 ≤ bc ∧ ms2 ≤ bs ∧ (f_J5_append_3fe6f S a0 a1 mc2 ms2 fun v3 S1 => (
  post a0 S1)))
abbrev rm_J4_append_cf468 (mc ms : Nat) : Room := { frames := 5, cells := mc, slots := ms, locals := 125 }
set_option maxHeartbeats 4000000 in
set_option maxRecDepth 100000 in
theorem c_J4_append_cf468 (l : Launch) (D : va_G) (cy : Nat → ClassId) (G : p_GT) (hG : p_ok G) (hGC : ∀ (A : Nat → Prop) (U : State) (H : Heap), G A U H → gC A U H) (hGU : ∀ (A : Nat → Prop) (U : State) (H : Heap), G A U H → gU A U H) (S : PS) (a0 : Nat) (a1 : Int32) (mc ms : Nat) (post : Nat → PS → Prop) (sz : Nat) (hf : f_J4_append_cf468 S a0 a1 mc ms post) : p_Mr l D cy G S sz yJ4_append_cf468 (Cond.code yJ4_append_cf468 cJ4_append_cf468 2 (some (.object "java/lang/StringBuilder")) :: wG) (rm_J4_append_cf468 mc ms) [.ref a0, .int a1] mc ms post := by
  refine q_start hG (Qc := fun A => p_Qr D cy post A) mf_J4_append_cf468 (Nat.le_of_ble_eq_true rfl) (own := RJ4) rfl ?_
  intro p e s m below meth c A X hr hlk hnm ls hl hH
  have hx := X.1.1
  have hb := X.1.2.1
  replace hl : lv_has ls 2 [(0, .ref a0), (1, .int a1)] := hl
  have main : ∀ (H : Heap) (locs : List Loc) (ls : Array Slot) (cells slots bc bs : Nat), f_J4_append_cf468 S a0 a1 bc bs post → p_H D cy S A s H locs → lv_has ls 2 [(0, .ref a0), (1, .int a1)] → cells + bc ≤ mc ∧ slots + bs ≤ ms → W p l e (rm_J4_append_cf468 mc ms) s m [.ref a0, .int a1].toArray below meth c H locs cells slots (MQ below (p_Qr D cy post A) [.ref a0, .int a1].toArray s mc ms A) (F0 m 0 ls []) := by
    intro H locs ls cells slots bc bs hf hH hl hB
    refine lv_aload_n hx hb dJ4_append_cf468_0 rfl (lv_at hl 0 rfl) ?_
    refine lv_iload_n hx hb dJ4_append_cf468_1 rfl (lv_at hl 1 rfl) ?_
    obtain ⟨hb1, hb2, hf⟩ := hf
    obtain ⟨mc2, ms2, hm1, hs1, hf⟩ := hf
    refine q_backRB X hH hB hm1 hs1 (q_runSU [.int a1] [] X hH hl (c_J5_append_3fe6f l D cy G X.2.2.2.1 hGC hGU S a0 a1 mc2 ms2 _ _ hf) mf_J5_append_3fe6f tw_739 tw_1304 tw_208 (by decide +kernel) tw_738 ⟨Nat.le_of_ble_eq_true rfl, Nat.le_of_ble_eq_true rfl⟩ hb1 hb2 rfl (Nat.le_of_ble_eq_true rfl) dJ4_append_cf468_2 ⟨Nat.le_trans (Nat.add_le_add_left hm1 _) hB.1, Nat.le_trans (Nat.add_le_add_left hs1 _) hB.2⟩) (fun v3 S1 hf H locs cells slots hH hB => ?_)
    refine lv_pop hx hb dJ4_append_cf468_5 rfl ?_
    refine lv_aload_n hx hb dJ4_append_cf468_6 rfl (lv_at hl 0 rfl) ?_
    exact q_retR X hH hr (Or.inl ⟨_, rfl⟩) hlk hf (Nat.le_trans (Nat.le_add_right _ _) hB.1) (Nat.le_trans (Nat.le_add_right _ _) hB.2) dJ4_append_cf468_7
  exact main s.heap [] ls 0 0 mc ms hf hH hl ⟨by omega, by omega⟩
-- J4_append_bf812
def f_J4_append_bf812 (S : PS) (a0 : Nat) (a1 : Int32) (bc bs : Nat) (post : Nat → PS → Prop) : Prop :=
  isO S a0 1 (
  ∃ mc2 ms2 : Nat, mc2 ≤ bc ∧ ms2 ≤ bs ∧ (f_J5_append_c97b9 S a0 a1 mc2 ms2 fun v3 S1 => (
  post a0 S1)))
abbrev rm_J4_append_bf812 (mc ms : Nat) : Room := { frames := 5, cells := mc, slots := ms, locals := 127 }
set_option maxHeartbeats 4000000 in
set_option maxRecDepth 100000 in
theorem c_J4_append_bf812 (l : Launch) (D : va_G) (cy : Nat → ClassId) (G : p_GT) (hG : p_ok G) (hGC : ∀ (A : Nat → Prop) (U : State) (H : Heap), G A U H → gC A U H) (dT dO : Nat) (hGT : ∀ (A : Nat → Prop) (U : State) (H : Heap), G A U H → gT dT dO A U H) (hGU : ∀ (A : Nat → Prop) (U : State) (H : Heap), G A U H → gU A U H) (S : PS) (a0 : Nat) (a1 : Int32) (mc ms : Nat) (post : Nat → PS → Prop) (sz : Nat) (hf : f_J4_append_bf812 S a0 a1 mc ms post) : p_Mr l D cy G S sz yJ4_append_bf812 (Cond.code yJ4_append_bf812 cJ4_append_bf812 2 (some (.object "java/lang/StringBuilder")) :: wG) (rm_J4_append_bf812 mc ms) [.ref a0, .int a1] mc ms post := by
  refine q_start hG (Qc := fun A => p_Qr D cy post A) mf_J4_append_bf812 (Nat.le_of_ble_eq_true rfl) (own := RJ4) rfl ?_
  intro p e s m below meth c A X hr hlk hnm ls hl hH
  have hx := X.1.1
  have hb := X.1.2.1
  replace hl : lv_has ls 2 [(0, .ref a0), (1, .int a1)] := hl
  have main : ∀ (H : Heap) (locs : List Loc) (ls : Array Slot) (cells slots bc bs : Nat), f_J4_append_bf812 S a0 a1 bc bs post → p_H D cy S A s H locs → lv_has ls 2 [(0, .ref a0), (1, .int a1)] → cells + bc ≤ mc ∧ slots + bs ≤ ms → W p l e (rm_J4_append_bf812 mc ms) s m [.ref a0, .int a1].toArray below meth c H locs cells slots (MQ below (p_Qr D cy post A) [.ref a0, .int a1].toArray s mc ms A) (F0 m 0 ls []) := by
    intro H locs ls cells slots bc bs hf hH hl hB
    refine lv_aload_n hx hb dJ4_append_bf812_0 rfl (lv_at hl 0 rfl) ?_
    refine lv_iload_n hx hb dJ4_append_bf812_1 rfl (lv_at hl 1 rfl) ?_
    obtain ⟨hb1, hb2, hf⟩ := hf
    obtain ⟨mc2, ms2, hm1, hs1, hf⟩ := hf
    refine q_backRB X hH hB hm1 hs1 (q_runSU [.int a1] [] X hH hl (c_J5_append_c97b9 l D cy G X.2.2.2.1 hGC dT dO hGT hGU S a0 a1 mc2 ms2 _ _ hf) mf_J5_append_c97b9 tw_794 tw_1306 tw_208 (by decide +kernel) tw_793 ⟨Nat.le_of_ble_eq_true rfl, Nat.le_of_ble_eq_true rfl⟩ hb1 hb2 rfl (Nat.le_of_ble_eq_true rfl) dJ4_append_bf812_2 ⟨Nat.le_trans (Nat.add_le_add_left hm1 _) hB.1, Nat.le_trans (Nat.add_le_add_left hs1 _) hB.2⟩) (fun v3 S1 hf H locs cells slots hH hB => ?_)
    refine lv_pop hx hb dJ4_append_bf812_5 rfl ?_
    refine lv_aload_n hx hb dJ4_append_bf812_6 rfl (lv_at hl 0 rfl) ?_
    exact q_retR X hH hr (Or.inl ⟨_, rfl⟩) hlk hf (Nat.le_trans (Nat.le_add_right _ _) hB.1) (Nat.le_trans (Nat.le_add_right _ _) hB.2) dJ4_append_bf812_7
  exact main s.heap [] ls 0 0 mc ms hf hH hl ⟨by omega, by omega⟩
-- J4_charAt_5068e
def f_J4_charAt_5068e (S : PS) (a0 : Nat) (a1 : Int32) (post : Int32 → PS → Prop) : Prop :=
  isO S a0 1 (
  f_J5_charAt_5068e S a0 a1 fun v2 S1 => (
  nZ .char v2 (post v2 S1)))
abbrev rm_J4_charAt_5068e : Room := { frames := 3, cells := 0, slots := 0, locals := 67 }
set_option maxHeartbeats 4000000 in
set_option maxRecDepth 100000 in
theorem c_J4_charAt_5068e (l : Launch) (D : va_G) (cy : Nat → ClassId) (G : p_GT) (hG : p_ok G) (hGF : ∀ (A : Nat → Prop) (U : State) (H : Heap), G A U H → gF A U H) (S : PS) (a0 : Nat) (a1 : Int32) (post : Int32 → PS → Prop) (sz : Nat) (hf : f_J4_charAt_5068e S a0 a1 post) : p_Mi l D cy G S sz yJ4_charAt_5068e (Cond.code yJ4_charAt_5068e cJ4_charAt_5068e 2 (some .char) :: wG) rm_J4_charAt_5068e [.ref a0, .int a1] 0 0 post := by
  refine q_start hG (Qc := fun A => va_Qi post (p_Post D cy A) A) mf_J4_charAt_5068e (Nat.le_of_ble_eq_true rfl) (own := RJ4) rfl ?_
  intro p e s m below meth c A X hr hlk hnm ls hl hH
  have hx := X.1.1
  have hb := X.1.2.1
  replace hl : lv_has ls 2 [(0, .ref a0), (1, .int a1)] := hl
  obtain ⟨H, hHe⟩ : ∃ H, H = s.heap := ⟨_, rfl⟩
  obtain ⟨locs, hlo⟩ : ∃ locs : List Loc, locs = [] := ⟨_, rfl⟩
  rw [← hHe, ← hlo] at hH
  show W p l e rm_J4_charAt_5068e s m [.ref a0, .int a1].toArray below meth c s.heap [] 0 0 _ _
  rw [← hHe, ← hlo]
  refine lv_aload_n hx hb dJ4_charAt_5068e_0 rfl (lv_at hl 0 rfl) ?_
  refine lv_iload_n hx hb dJ4_charAt_5068e_1 rfl (lv_at hl 1 rfl) ?_
  obtain ⟨hb1, hb2, hf⟩ := hf
  refine q_backI0 X hH (q_runSU [.int a1] [] X hH hl (c_J5_charAt_5068e l D cy G X.2.2.2.1 hGF S a0 a1 _ _ hf) mf_J5_charAt_5068e tw_1183 tw_1307 tw_208 (by decide +kernel) tw_1182 ⟨Nat.le_of_ble_eq_true rfl, Nat.le_of_ble_eq_true rfl⟩ hb1 hb2 rfl (Nat.le_of_ble_eq_true rfl) dJ4_charAt_5068e_2 ⟨Nat.le_of_ble_eq_true rfl, Nat.le_of_ble_eq_true rfl⟩) (fun v2 S1 hf H locs hH => ?_)
  exact q_retZ X hH hr hlk hf (Nat.zero_le _) (Nat.zero_le _) dJ4_charAt_5068e_5
-- J4_setLength_d00df
def f_J4_setLength_d00df (S : PS) (a0 : Nat) (a1 : Int32) (bc bs : Nat) (post : PS → Prop) : Prop :=
  isO S a0 1 (
  ∃ mc2 ms2 : Nat, mc2 ≤ bc ∧ ms2 ≤ bs ∧ (f_J5_setLength_d00df S a0 a1 mc2 ms2 fun S1 => (
  post S1)))
abbrev rm_J4_setLength_d00df (mc ms : Nat) : Room := { frames := 5, cells := mc, slots := ms, locals := 125 }
set_option maxHeartbeats 4000000 in
set_option maxRecDepth 100000 in
theorem c_J4_setLength_d00df (l : Launch) (D : va_G) (cy : Nat → ClassId) (G : p_GT) (hG : p_ok G) (hGU : ∀ (A : Nat → Prop) (U : State) (H : Heap), G A U H → gU A U H) (S : PS) (a0 : Nat) (a1 : Int32) (mc ms : Nat) (post : PS → Prop) (sz : Nat) (hf : f_J4_setLength_d00df S a0 a1 mc ms post) : p_Mv l D cy G S sz yJ4_setLength_d00df (Cond.code yJ4_setLength_d00df cJ4_setLength_d00df 2 none :: wG) (rm_J4_setLength_d00df mc ms) [.ref a0, .int a1] mc ms post := by
  refine q_start hG (Qc := fun A => va_Qv post (p_Post D cy A) A) mf_J4_setLength_d00df (Nat.le_of_ble_eq_true rfl) (own := RJ4) rfl ?_
  intro p e s m below meth c A X hr hlk hnm ls hl hH
  have hx := X.1.1
  have hb := X.1.2.1
  replace hl : lv_has ls 2 [(0, .ref a0), (1, .int a1)] := hl
  have main : ∀ (H : Heap) (locs : List Loc) (ls : Array Slot) (cells slots bc bs : Nat), f_J4_setLength_d00df S a0 a1 bc bs post → p_H D cy S A s H locs → lv_has ls 2 [(0, .ref a0), (1, .int a1)] → cells + bc ≤ mc ∧ slots + bs ≤ ms → W p l e (rm_J4_setLength_d00df mc ms) s m [.ref a0, .int a1].toArray below meth c H locs cells slots (MQ below (va_Qv post (p_Post D cy A) A) [.ref a0, .int a1].toArray s mc ms A) (F0 m 0 ls []) := by
    intro H locs ls cells slots bc bs hf hH hl hB
    refine lv_aload_n hx hb dJ4_setLength_d00df_0 rfl (lv_at hl 0 rfl) ?_
    refine lv_iload_n hx hb dJ4_setLength_d00df_1 rfl (lv_at hl 1 rfl) ?_
    obtain ⟨hb1, hb2, hf⟩ := hf
    obtain ⟨mc2, ms2, hm1, hs1, hf⟩ := hf
    refine q_backVB X hH hB hm1 hs1 (q_runSU [.int a1] [] X hH hl (c_J5_setLength_d00df l D cy G X.2.2.2.1 hGU S a0 a1 mc2 ms2 _ _ hf) mf_J5_setLength_d00df tw_671 tw_1300 tw_208 (by decide +kernel) tw_670 ⟨Nat.le_of_ble_eq_true rfl, Nat.le_of_ble_eq_true rfl⟩ hb1 hb2 rfl (Nat.le_of_ble_eq_true rfl) dJ4_setLength_d00df_2 ⟨Nat.le_trans (Nat.add_le_add_left hm1 _) hB.1, Nat.le_trans (Nat.add_le_add_left hs1 _) hB.2⟩) (fun S1 hf H locs cells slots hH hB => ?_)
    exact q_retV X hH hr hlk hf (Nat.le_trans (Nat.le_add_right _ _) hB.1) (Nat.le_trans (Nat.le_add_right _ _) hB.2) dJ4_setLength_d00df_5
  exact main s.heap [] ls 0 0 mc ms hf hH hl ⟨by omega, by omega⟩
