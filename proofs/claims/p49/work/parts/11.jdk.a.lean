-- J5_init_d00df
def f_J5_init_d00df (S : PS) (a0 : Nat) (a1 : Int32) (bc bs : Nat) (post : PS → Prop) : Prop :=
  if (1 : Int32) = 0 then
    False
  else
    nA S 1 a1 bc bs fun q2 S3 bc4 bs5 => (
    pV S3 a0 1 0 (.ref q2) fun S6 => (
    pV S6 a0 1 1 (.int 0) fun S7 => (
    post S7)))
abbrev rm_J5_init_d00df (mc ms : Nat) : Room := { frames := 1, cells := mc, slots := ms, locals := 20 }
set_option maxHeartbeats 4000000 in
set_option maxRecDepth 100000 in
theorem c_J5_init_d00df (l : Launch) (D : va_G) (cy : Nat → ClassId) (G : p_GT) (hG : p_ok G) (hGC : ∀ (A : Nat → Prop) (U : State) (H : Heap), G A U H → gC A U H) (S : PS) (a0 : Nat) (a1 : Int32) (mc ms : Nat) (post : PS → Prop) (sz : Nat) (hf : f_J5_init_d00df S a0 a1 mc ms post) : p_Mv l D cy G S sz yJ5_init_d00df (Cond.code yJ5_init_d00df cJ5_init_d00df 2 none :: wG) (rm_J5_init_d00df mc ms) [.ref a0, .int a1] mc ms post := by
  refine q_start hG (Qc := fun A => va_Qv post (p_Post D cy A) A) mf_J5_init_d00df (Nat.le_of_ble_eq_true rfl) (own := RJ5) rfl ?_
  intro p e s m below meth c A X hr hlk hnm ls hl hH
  have hx := X.1.1
  have hb := X.1.2.1
  replace hl : lv_has ls 2 [(0, .ref a0), (1, .int a1)] := hl
  have main : ∀ (H : Heap) (locs : List Loc) (ls : Array Slot) (cells slots bc bs : Nat), f_J5_init_d00df S a0 a1 bc bs post → p_H D cy S A s H locs → lv_has ls 2 [(0, .ref a0), (1, .int a1)] → cells + bc ≤ mc ∧ slots + bs ≤ ms → W p l e (rm_J5_init_d00df mc ms) s m [.ref a0, .int a1].toArray below meth c H locs cells slots (MQ below (va_Qv post (p_Post D cy A) A) [.ref a0, .int a1].toArray s mc ms A) (F0 m 0 ls []) := by
    intro H locs ls cells slots bc bs hf hH hl hB
    refine lv_aload_n hx hb dJ5_init_d00df_0 rfl (lv_at hl 0 rfl) ?_
    refine q_objInit X hl tw_185 tw_64 tw_o ⟨Nat.le_of_ble_eq_true rfl, Nat.le_of_ble_eq_true rfl⟩ (Nat.le_of_ble_eq_true rfl) dJ5_init_d00df_1 ?_
    refine q_getsC X hH (hGC _ _ _ X.2.2.2.2) tw_186 dJ5_init_d00df_4 ?_
    refine lv_if_eq (tgt := 25) hx hb dJ5_init_d00df_7 (by decide) (fun c1 => ?_) (fun c1 => ?_)
    · have hf := (if_pos c1).mp hf
      exact hf.elim
    · have hf := (if_neg c1).mp hf
      refine lv_aload_n hx hb dJ5_init_d00df_10 rfl (lv_at hl 0 rfl) ?_
      refine lv_iload_n hx hb dJ5_init_d00df_11 rfl (lv_at hl 1 rfl) ?_
      refine q_newa (t := 1) (atype := .byte) (ty := .byte) X hH hB hf tw_209 rfl rfl (fun C h => by cases h) (fun N cA => rfl) (by decide) dJ5_init_d00df_12 (fun q2 S3 bc4 bs5 hf H locs cells slots hH hB => ?_)
      refine q_putV (T := TJ4) (N := 4) (ty0 := tyJ4) (ty := tyJ4 0) X hH hf iw_J4 tyJ4_ok nmJ4 rfl (by decide) tw_195 (fun _ h => h) rfl (tyJ4_ok 0 (by decide)) rfl rfl dJ5_init_d00df_14 (fun S6 hf H locs hH => ?_)
      refine lv_aload_n hx hb dJ5_init_d00df_17 rfl (lv_at hl 0 rfl) ?_
      refine lv_iconst (v := 0) hx hb dJ5_init_d00df_18 (by decide) ?_
      refine q_putV (T := TJ4) (N := 4) (ty0 := tyJ4) (ty := tyJ4 1) X hH hf iw_J4 tyJ4_ok nmJ4 rfl (by decide) tw_196 (fun _ h => h) rfl (tyJ4_ok 1 (by decide)) rfl rfl dJ5_init_d00df_19 (fun S7 hf H locs hH => ?_)
      refine lv_goto (tgt := 38) hx hb dJ5_init_d00df_22 (by decide) ?_
      exact q_retV X hH hr hlk hf (Nat.le_trans (Nat.le_add_right _ _) hB.1) (Nat.le_trans (Nat.le_add_right _ _) hB.2) dJ5_init_d00df_38
  exact main s.heap [] ls 0 0 mc ms hf hH hl ⟨by omega, by omega⟩
-- J5_length_8abf5
def f_J5_length_8abf5 (S : PS) (a0 : Nat) (post : Int32 → PS → Prop) : Prop :=
  gI S a0 1 3 fun v1 => (
  post v1 S)
abbrev rm_J5_length_8abf5 : Room := { frames := 0, cells := 0, slots := 0, locals := 0 }
set_option maxHeartbeats 4000000 in
set_option maxRecDepth 100000 in
theorem c_J5_length_8abf5 (l : Launch) (D : va_G) (cy : Nat → ClassId) (G : p_GT) (hG : p_ok G) (S : PS) (a0 : Nat) (post : Int32 → PS → Prop) (sz : Nat) (hf : f_J5_length_8abf5 S a0 post) : p_Mi l D cy G S sz yJ5_length_8abf5 (Cond.code yJ5_length_8abf5 cJ5_length_8abf5 1 (some .int) :: wG) rm_J5_length_8abf5 [.ref a0] 0 0 post := by
  refine q_start hG (Qc := fun A => va_Qi post (p_Post D cy A) A) mf_J5_length_8abf5 (Nat.le_of_ble_eq_true rfl) (own := RJ5) rfl ?_
  intro p e s m below meth c A X hr hlk hnm ls hl hH
  have hx := X.1.1
  have hb := X.1.2.1
  replace hl : lv_has ls 1 [(0, .ref a0)] := hl
  obtain ⟨H, hHe⟩ : ∃ H, H = s.heap := ⟨_, rfl⟩
  obtain ⟨locs, hlo⟩ : ∃ locs : List Loc, locs = [] := ⟨_, rfl⟩
  rw [← hHe, ← hlo] at hH
  show W p l e rm_J5_length_8abf5 s m [.ref a0].toArray below meth c s.heap [] 0 0 _ _
  rw [← hHe, ← hlo]
  refine lv_aload_n hx hb dJ5_length_8abf5_0 rfl (lv_at hl 0 rfl) ?_
  refine q_getI (T := TJ4) (N := 4) X hH hf iw_J4 rfl (by decide) tw_199 (fun _ h => h) dJ5_length_8abf5_1 (fun v1 hf => ?_)
  exact q_retI X hH hr hlk hf (Nat.zero_le _) (Nat.zero_le _) dJ5_length_8abf5_4
-- J5_getValue_6d5f1
def f_J5_getValue_6d5f1 (S : PS) (a0 : Nat) (post : Nat → PS → Prop) : Prop :=
  gR S a0 1 0 fun v1 => (
  post v1 S)
abbrev rm_J5_getValue_6d5f1 : Room := { frames := 0, cells := 0, slots := 0, locals := 0 }
set_option maxHeartbeats 4000000 in
set_option maxRecDepth 100000 in
theorem c_J5_getValue_6d5f1 (l : Launch) (D : va_G) (cy : Nat → ClassId) (G : p_GT) (hG : p_ok G) (S : PS) (a0 : Nat) (post : Nat → PS → Prop) (sz : Nat) (hf : f_J5_getValue_6d5f1 S a0 post) : p_Mr l D cy G S sz yJ5_getValue_6d5f1 (Cond.code yJ5_getValue_6d5f1 cJ5_getValue_6d5f1 1 (some (.array .byte)) :: wG) rm_J5_getValue_6d5f1 [.ref a0] 0 0 post := by
  refine q_start hG (Qc := fun A => p_Qr D cy post A) mf_J5_getValue_6d5f1 (Nat.le_of_ble_eq_true rfl) (own := RJ5) rfl ?_
  intro p e s m below meth c A X hr hlk hnm ls hl hH
  have hx := X.1.1
  have hb := X.1.2.1
  replace hl : lv_has ls 1 [(0, .ref a0)] := hl
  obtain ⟨H, hHe⟩ : ∃ H, H = s.heap := ⟨_, rfl⟩
  obtain ⟨locs, hlo⟩ : ∃ locs : List Loc, locs = [] := ⟨_, rfl⟩
  rw [← hHe, ← hlo] at hH
  show W p l e rm_J5_getValue_6d5f1 s m [.ref a0].toArray below meth c s.heap [] 0 0 _ _
  rw [← hHe, ← hlo]
  refine lv_aload_n hx hb dJ5_getValue_6d5f1_0 rfl (lv_at hl 0 rfl) ?_
  refine q_getR (T := TJ4) (N := 4) X hH hf iw_J4 rfl (by decide) tw_195 (fun _ h => h) dJ5_getValue_6d5f1_1 (fun v1 hf => ?_)
  exact q_retR X hH hr (Or.inr ⟨_, rfl⟩) hlk hf (Nat.zero_le _) (Nat.zero_le _) dJ5_getValue_6d5f1_4
-- J5_isLatin1_aae02
def f_J5_isLatin1_aae02 (S : PS) (a0 : Nat) (post : Int32 → PS → Prop) : Prop :=
  if (1 : Int32) = 0 then
    nZ .boolean 0 (post 0 S)
  else
    gI S a0 1 1 fun v2 => (
    if v2 = 0 then
      nZ .boolean 1 (post 1 S)
    else
      nZ .boolean 0 (post 0 S))
abbrev rm_J5_isLatin1_aae02 : Room := { frames := 0, cells := 0, slots := 0, locals := 0 }
set_option maxHeartbeats 4000000 in
set_option maxRecDepth 100000 in
theorem c_J5_isLatin1_aae02 (l : Launch) (D : va_G) (cy : Nat → ClassId) (G : p_GT) (hG : p_ok G) (hGC : ∀ (A : Nat → Prop) (U : State) (H : Heap), G A U H → gC A U H) (S : PS) (a0 : Nat) (post : Int32 → PS → Prop) (sz : Nat) (hf : f_J5_isLatin1_aae02 S a0 post) : p_Mi l D cy G S sz yJ5_isLatin1_aae02 (Cond.code yJ5_isLatin1_aae02 cJ5_isLatin1_aae02 1 (some .boolean) :: wG) rm_J5_isLatin1_aae02 [.ref a0] 0 0 post := by
  refine q_start hG (Qc := fun A => va_Qi post (p_Post D cy A) A) mf_J5_isLatin1_aae02 (Nat.le_of_ble_eq_true rfl) (own := RJ5) rfl ?_
  intro p e s m below meth c A X hr hlk hnm ls hl hH
  have hx := X.1.1
  have hb := X.1.2.1
  replace hl : lv_has ls 1 [(0, .ref a0)] := hl
  obtain ⟨H, hHe⟩ : ∃ H, H = s.heap := ⟨_, rfl⟩
  obtain ⟨locs, hlo⟩ : ∃ locs : List Loc, locs = [] := ⟨_, rfl⟩
  rw [← hHe, ← hlo] at hH
  show W p l e rm_J5_isLatin1_aae02 s m [.ref a0].toArray below meth c s.heap [] 0 0 _ _
  rw [← hHe, ← hlo]
  refine q_getsC X hH (hGC _ _ _ X.2.2.2.2) tw_186 dJ5_isLatin1_aae02_0 ?_
  refine lv_if_eq (tgt := 17) hx hb dJ5_isLatin1_aae02_3 (by decide) (fun c1 => ?_) (fun c1 => ?_)
  · have hf := (if_pos c1).mp hf
    refine lv_iconst (v := 0) hx hb dJ5_isLatin1_aae02_17 (by decide) ?_
    exact q_retZ X hH hr hlk hf (Nat.zero_le _) (Nat.zero_le _) dJ5_isLatin1_aae02_18
  · have hf := (if_neg c1).mp hf
    refine lv_aload_n hx hb dJ5_isLatin1_aae02_6 rfl (lv_at hl 0 rfl) ?_
    refine q_getI (T := TJ4) (N := 4) X hH hf iw_J4 rfl (by decide) tw_196 (fun _ h => h) dJ5_isLatin1_aae02_7 (fun v2 hf => ?_)
    refine lv_if_ne (tgt := 17) hx hb dJ5_isLatin1_aae02_10 (by decide) (fun c3 => ?_) (fun c3 => ?_)
    · have hf := (if_neg c3).mp hf
      refine lv_iconst (v := 0) hx hb dJ5_isLatin1_aae02_17 (by decide) ?_
      exact q_retZ X hH hr hlk hf (Nat.zero_le _) (Nat.zero_le _) dJ5_isLatin1_aae02_18
    · have hf := (if_pos c3).mp hf
      refine lv_iconst (v := 1) hx hb dJ5_isLatin1_aae02_13 (by decide) ?_
      refine lv_goto (tgt := 18) hx hb dJ5_isLatin1_aae02_14 (by decide) ?_
      exact q_retZ X hH hr hlk hf (Nat.zero_le _) (Nat.zero_le _) dJ5_isLatin1_aae02_18
-- J6_getChars_ba4f3
def f_J6_getChars_ba4f3_J104 (post : Int32 → PS → Prop) (S : PS) (l2 : Nat) (l5 : Int32) (l6 : Int32) : Prop :=
  if l6 = 0 then
    post l5 S
  else
    sI S l2 1 (l5 + (-1)) (vp_nar .byte 45) fun S2 => (
    post (l5 + (-1)) S2)
def f_J6_getChars_ba4f3_J72 (post : Int32 → PS → Prop) (S : PS) (l0 : Int32) (l2 : Nat) (l5 : Int32) (l6 : Int32) : Prop :=
  vp_in (-l0) 100 ∧ (
  sI S l2 1 (l5 + (-1)) (vp_nar .byte (dgO (-l0).toNatClampNeg)) fun S1 => (
  if (-9) ≤ l0 then
    f_J6_getChars_ba4f3_J104 post S1 l2 (l5 + (-1)) l6
  else
    vp_in (-l0) 100 ∧ (
    sI S1 l2 1 ((l5 + (-1)) + (-1)) (vp_nar .byte (dgT (-l0).toNatClampNeg)) fun S3 => (
    f_J6_getChars_ba4f3_J104 post S3 l2 ((l5 + (-1)) + (-1)) l6))))
def f_J6_getChars_ba4f3_L22 (post : Int32 → PS → Prop) : Nat → PS → Int32 → Nat → Int32 → Int32 → Prop
  | 0, _, _, _, _, _ => False
  | n + 1, S, l0, l2, l5, l6 =>
  if (-100) < l0 then
    f_J6_getChars_ba4f3_J72 post S l0 l2 l5 l6
  else
    (¬ (100 : Int32) = 0) ∧ (
    vp_in (((l0 / 100) * 100) - l0) 100 ∧ (
    sI S l2 1 (l5 + (-1)) (vp_nar .byte (dgO (((l0 / 100) * 100) - l0).toNatClampNeg)) fun S2 => (
    vp_in (((l0 / 100) * 100) - l0) 100 ∧ (
    sI S2 l2 1 ((l5 + (-1)) + (-1)) (vp_nar .byte (dgT (((l0 / 100) * 100) - l0).toNatClampNeg)) fun S3 => (
    (f_J6_getChars_ba4f3_L22 post n) S3 (l0 / 100) l2 ((l5 + (-1)) + (-1)) l6)))))
def f_J6_getChars_ba4f3_J12 (post : Int32 → PS → Prop) (S : PS) (l0 : Int32) (l2 : Nat) (l5 : Int32) (t0 : Int32) : Prop :=
  if t0 = 0 then
    f_J6_getChars_ba4f3_L22 post 4096 S (-l0) l2 l5 t0
  else
    f_J6_getChars_ba4f3_L22 post 4096 S l0 l2 l5 t0
def f_J6_getChars_ba4f3 (S : PS) (a0 : Int32) (a1 : Int32) (a2 : Nat) (post : Int32 → PS → Prop) : Prop :=
  if 0 ≤ a0 then
    f_J6_getChars_ba4f3_J12 post S a0 a2 a1 0
  else
    f_J6_getChars_ba4f3_J12 post S a0 a2 a1 1
abbrev rm_J6_getChars_ba4f3 : Room := { frames := 0, cells := 0, slots := 0, locals := 0 }
set_option maxHeartbeats 4000000 in
set_option maxRecDepth 100000 in
theorem c_J6_getChars_ba4f3 (l : Launch) (D : va_G) (cy : Nat → ClassId) (G : p_GT) (hG : p_ok G) (dT dO : Nat) (hGT : ∀ (A : Nat → Prop) (U : State) (H : Heap), G A U H → gT dT dO A U H) (S : PS) (a0 : Int32) (a1 : Int32) (a2 : Nat) (post : Int32 → PS → Prop) (sz : Nat) (hf : f_J6_getChars_ba4f3 S a0 a1 a2 post) : p_Mi l D cy G S sz yJ6_getChars_ba4f3 (Cond.code yJ6_getChars_ba4f3 cJ6_getChars_ba4f3 7 (some .int) :: wG) rm_J6_getChars_ba4f3 [.int a0, .int a1, .ref a2] 0 0 post := by
  refine q_start hG (Qc := fun A => va_Qi post (p_Post D cy A) A) mf_J6_getChars_ba4f3 (Nat.le_of_ble_eq_true rfl) (own := RJ6) rfl ?_
  intro p e s m below meth c A X hr hlk hnm ls hl hH
  have hx := X.1.1
  have hb := X.1.2.1
  replace hl : lv_has ls 7 [(0, .int a0), (1, .int a1), (2, .ref a2)] := hl
  obtain ⟨H, hHe⟩ : ∃ H, H = s.heap := ⟨_, rfl⟩
  obtain ⟨locs, hlo⟩ : ∃ locs : List Loc, locs = [] := ⟨_, rfl⟩
  rw [← hHe, ← hlo] at hH
  show W p l e rm_J6_getChars_ba4f3 s m [.int a0, .int a1, .ref a2].toArray below meth c s.heap [] 0 0 _ _
  rw [← hHe, ← hlo]
  have hJ12 : ∀ (S : PS) (l0 : Int32) (l2 : Nat) (l5 : Int32) (t0 : Int32), f_J6_getChars_ba4f3_J12 post S l0 l2 l5 t0 → ∀ (H : Heap) (locs : List Loc) (ls : Array Slot), p_H D cy S A s H locs → lv_has ls 7 [(0, .int l0), (2, .ref l2), (5, .int l5)] → W p l e rm_J6_getChars_ba4f3 s m [.int a0, .int a1, .ref a2].toArray below meth c H locs 0 0 (MQ below (va_Qi post (p_Post D cy A) A) [.int a0, .int a1, .ref a2].toArray s 0 0 A) (F0 m 12 ls [.int t0]) := by
    intro S l0 l2 l5 t0 hf H locs ls hH hl
    have hL22 : ∀ (n22 : Nat) (S : PS) (l0 : Int32) (l2 : Nat) (l5 : Int32) (l6 : Int32), f_J6_getChars_ba4f3_L22 post n22 S l0 l2 l5 l6 → ∀ (H : Heap) (locs : List Loc) (ls : Array Slot), p_H D cy S A s H locs → lv_has ls 7 [(0, .int l0), (2, .ref l2), (5, .int l5), (6, .int l6)] → W p l e rm_J6_getChars_ba4f3 s m [.int a0, .int a1, .ref a2].toArray below meth c H locs 0 0 (MQ below (va_Qi post (p_Post D cy A) A) [.int a0, .int a1, .ref a2].toArray s 0 0 A) (F0 m 22 ls []) := by
      intro n22
      induction n22 with
      | zero => intro S l0 l2 l5 l6 hf; exact hf.elim
      | succ n22 ih22 =>
        intro S l0 l2 l5 l6 hf H locs ls hH hl
        have hJ72 : ∀ (S : PS) (l0 : Int32) (l2 : Nat) (l5 : Int32) (l6 : Int32), f_J6_getChars_ba4f3_J72 post S l0 l2 l5 l6 → ∀ (H : Heap) (locs : List Loc) (ls : Array Slot), p_H D cy S A s H locs → lv_has ls 7 [(0, .int l0), (2, .ref l2), (5, .int l5), (6, .int l6)] → W p l e rm_J6_getChars_ba4f3 s m [.int a0, .int a1, .ref a2].toArray below meth c H locs 0 0 (MQ below (va_Qi post (p_Post D cy A) A) [.int a0, .int a1, .ref a2].toArray s 0 0 A) (F0 m 72 ls []) := by
          intro S l0 l2 l5 l6 hf H locs ls hH hl
          have hJ104 : ∀ (S : PS) (l2 : Nat) (l5 : Int32) (l6 : Int32), f_J6_getChars_ba4f3_J104 post S l2 l5 l6 → ∀ (H : Heap) (locs : List Loc) (ls : Array Slot), p_H D cy S A s H locs → lv_has ls 7 [(2, .ref l2), (5, .int l5), (6, .int l6)] → W p l e rm_J6_getChars_ba4f3 s m [.int a0, .int a1, .ref a2].toArray below meth c H locs 0 0 (MQ below (va_Qi post (p_Post D cy A) A) [.int a0, .int a1, .ref a2].toArray s 0 0 A) (F0 m 104 ls []) := by
            intro S l2 l5 l6 hf H locs ls hH hl
            refine lv_iload hx hb dJ6_getChars_ba4f3_104 (lv_at hl 2 rfl) ?_
            refine lv_if_eq (tgt := 118) hx hb dJ6_getChars_ba4f3_106 (by decide) (fun c1 => ?_) (fun c1 => ?_)
            · have hf := (if_pos c1).mp hf
              refine lv_iload hx hb dJ6_getChars_ba4f3_118 (lv_at hl 1 rfl) ?_
              exact q_retI X hH hr hlk hf (Nat.zero_le _) (Nat.zero_le _) dJ6_getChars_ba4f3_120
            · have hf := (if_neg c1).mp hf
              refine lv_aload_n hx hb dJ6_getChars_ba4f3_109 rfl (lv_at hl 0 rfl) ?_
              refine lv_iinc (v := l5 + (-1)) (lv' := [(5, .int (l5 + (-1))), (2, .ref l2), (6, .int l6)]) hx hb dJ6_getChars_ba4f3_110 hl (k := 1) rfl rfl (by decide) rfl (fun ls hl => ?_)
              refine lv_iload hx hb dJ6_getChars_ba4f3_113 (lv_at hl 0 rfl) ?_
              refine lv_bipush (v := 45) hx hb dJ6_getChars_ba4f3_115 (by decide) ?_
              refine q_bast X hH hf dJ6_getChars_ba4f3_117 (fun S2 hf H locs hH => ?_)
              refine lv_iload hx hb dJ6_getChars_ba4f3_118 (lv_at hl 0 rfl) ?_
              exact q_retI X hH hr hlk hf (Nat.zero_le _) (Nat.zero_le _) dJ6_getChars_ba4f3_120
          refine lv_aload_n hx hb dJ6_getChars_ba4f3_72 rfl (lv_at hl 1 rfl) ?_
          refine lv_iinc (v := l5 + (-1)) (lv' := [(5, .int (l5 + (-1))), (0, .int l0), (2, .ref l2), (6, .int l6)]) hx hb dJ6_getChars_ba4f3_73 hl (k := 2) rfl rfl (by decide) rfl (fun ls hl => ?_)
          refine lv_iload hx hb dJ6_getChars_ba4f3_76 (lv_at hl 0 rfl) ?_
          refine q_getsT (t := dO) X hH (hGT _ _ _ X.2.2.2.2).2.1 tw_802 dJ6_getChars_ba4f3_78 ?_
          refine lv_iload_n hx hb dJ6_getChars_ba4f3_81 rfl (lv_at hl 1 rfl) ?_
          refine lv_ineg hx hb dJ6_getChars_ba4f3_82 ?_
          refine q_tald (f := dgO) X hH (hGT _ _ _ X.2.2.2.2).2.2 hf.1 dJ6_getChars_ba4f3_83 ?_
          have hf := hf.2
          refine q_bast X hH hf dJ6_getChars_ba4f3_84 (fun S1 hf H locs hH => ?_)
          refine lv_iload_n hx hb dJ6_getChars_ba4f3_85 rfl (lv_at hl 1 rfl) ?_
          refine lv_bipush (v := (-9)) hx hb dJ6_getChars_ba4f3_86 (by decide) ?_
          refine lv_icmp_ge (tgt := 104) hx hb dJ6_getChars_ba4f3_88 (by decide) (fun c2 => ?_) (fun c2 => ?_)
          · have hf := (if_pos c2).mp hf
            exact hJ104 S1 l2 (l5 + (-1)) l6 hf H locs ls hH (lv_sub hl [2, 0, 3] rfl)
          · have hf := (if_neg c2).mp hf
            refine lv_aload_n hx hb dJ6_getChars_ba4f3_91 rfl (lv_at hl 2 rfl) ?_
            refine lv_iinc (v := (l5 + (-1)) + (-1)) (lv' := [(5, .int ((l5 + (-1)) + (-1))), (0, .int l0), (2, .ref l2), (6, .int l6)]) hx hb dJ6_getChars_ba4f3_92 hl (k := 0) rfl rfl (by decide) rfl (fun ls hl => ?_)
            refine lv_iload hx hb dJ6_getChars_ba4f3_95 (lv_at hl 0 rfl) ?_
            refine q_getsT (t := dT) X hH (hGT _ _ _ X.2.2.2.2).1.1 tw_804 dJ6_getChars_ba4f3_97 ?_
            refine lv_iload_n hx hb dJ6_getChars_ba4f3_100 rfl (lv_at hl 1 rfl) ?_
            refine lv_ineg hx hb dJ6_getChars_ba4f3_101 ?_
            refine q_tald (f := dgT) X hH (hGT _ _ _ X.2.2.2.2).1.2 hf.1 dJ6_getChars_ba4f3_102 ?_
            have hf := hf.2
            refine q_bast X hH hf dJ6_getChars_ba4f3_103 (fun S3 hf H locs hH => ?_)
            exact hJ104 S3 l2 ((l5 + (-1)) + (-1)) l6 hf H locs ls hH (lv_sub hl [2, 0, 3] rfl)
        refine lv_iload_n hx hb dJ6_getChars_ba4f3_22 rfl (lv_at hl 0 rfl) ?_
        refine lv_bipush (v := (-100)) hx hb dJ6_getChars_ba4f3_23 (by decide) ?_
        refine lv_icmp_gt (tgt := 72) hx hb dJ6_getChars_ba4f3_25 (by decide) (fun c1 => ?_) (fun c1 => ?_)
        · have hf := (if_pos c1).mp hf
          exact hJ72 S l0 l2 l5 l6 hf H locs ls hH hl
        · have hf := (if_neg c1).mp hf
          refine lv_iload_n hx hb dJ6_getChars_ba4f3_28 rfl (lv_at hl 0 rfl) ?_
          refine lv_bipush (v := 100) hx hb dJ6_getChars_ba4f3_29 (by decide) ?_
          refine lv_idiv hx hb dJ6_getChars_ba4f3_31 hf.1 ?_
          have hf := hf.2
          refine lv_istore_n (lv' := [(3, .int (l0 / 100)), (0, .int l0), (2, .ref l2), (5, .int l5), (6, .int l6)]) hx hb dJ6_getChars_ba4f3_32 rfl hl (by decide) rfl (fun ls hl => ?_)
          refine lv_iload_n hx hb dJ6_getChars_ba4f3_33 rfl (lv_at hl 0 rfl) ?_
          refine lv_bipush (v := 100) hx hb dJ6_getChars_ba4f3_34 (by decide) ?_
          refine lv_imul hx hb dJ6_getChars_ba4f3_36 ?_
          refine lv_iload_n hx hb dJ6_getChars_ba4f3_37 rfl (lv_at hl 1 rfl) ?_
          refine lv_isub hx hb dJ6_getChars_ba4f3_38 ?_
          refine lv_istore (lv' := [(4, .int (((l0 / 100) * 100) - l0)), (3, .int (l0 / 100)), (0, .int l0), (2, .ref l2), (5, .int l5), (6, .int l6)]) hx hb dJ6_getChars_ba4f3_39 hl (by decide) rfl (fun ls hl => ?_)
          refine lv_iload_n hx hb dJ6_getChars_ba4f3_41 rfl (lv_at hl 1 rfl) ?_
          refine lv_istore_n (lv' := [(0, .int (l0 / 100)), (4, .int (((l0 / 100) * 100) - l0)), (3, .int (l0 / 100)), (2, .ref l2), (5, .int l5), (6, .int l6)]) hx hb dJ6_getChars_ba4f3_42 rfl hl (by decide) rfl (fun ls hl => ?_)
          refine lv_aload_n hx hb dJ6_getChars_ba4f3_43 rfl (lv_at hl 3 rfl) ?_
          refine lv_iinc (v := l5 + (-1)) (lv' := [(5, .int (l5 + (-1))), (0, .int (l0 / 100)), (4, .int (((l0 / 100) * 100) - l0)), (3, .int (l0 / 100)), (2, .ref l2), (6, .int l6)]) hx hb dJ6_getChars_ba4f3_44 hl (k := 4) rfl rfl (by decide) rfl (fun ls hl => ?_)
          refine lv_iload hx hb dJ6_getChars_ba4f3_47 (lv_at hl 0 rfl) ?_
          refine q_getsT (t := dO) X hH (hGT _ _ _ X.2.2.2.2).2.1 tw_802 dJ6_getChars_ba4f3_49 ?_
          refine lv_iload hx hb dJ6_getChars_ba4f3_52 (lv_at hl 2 rfl) ?_
          refine q_tald (f := dgO) X hH (hGT _ _ _ X.2.2.2.2).2.2 hf.1 dJ6_getChars_ba4f3_54 ?_
          have hf := hf.2
          refine q_bast X hH hf dJ6_getChars_ba4f3_55 (fun S2 hf H locs hH => ?_)
          refine lv_aload_n hx hb dJ6_getChars_ba4f3_56 rfl (lv_at hl 4 rfl) ?_
          refine lv_iinc (v := (l5 + (-1)) + (-1)) (lv' := [(5, .int ((l5 + (-1)) + (-1))), (0, .int (l0 / 100)), (4, .int (((l0 / 100) * 100) - l0)), (3, .int (l0 / 100)), (2, .ref l2), (6, .int l6)]) hx hb dJ6_getChars_ba4f3_57 hl (k := 0) rfl rfl (by decide) rfl (fun ls hl => ?_)
          refine lv_iload hx hb dJ6_getChars_ba4f3_60 (lv_at hl 0 rfl) ?_
          refine q_getsT (t := dT) X hH (hGT _ _ _ X.2.2.2.2).1.1 tw_804 dJ6_getChars_ba4f3_62 ?_
          refine lv_iload hx hb dJ6_getChars_ba4f3_65 (lv_at hl 2 rfl) ?_
          refine q_tald (f := dgT) X hH (hGT _ _ _ X.2.2.2.2).1.2 hf.1 dJ6_getChars_ba4f3_67 ?_
          have hf := hf.2
          refine q_bast X hH hf dJ6_getChars_ba4f3_68 (fun S3 hf H locs hH => ?_)
          refine lv_goto (tgt := 22) hx hb dJ6_getChars_ba4f3_69 (by decide) ?_
          exact ih22 S3 (l0 / 100) l2 ((l5 + (-1)) + (-1)) l6 hf H locs ls hH (lv_sub hl [1, 4, 0, 5] rfl)
    refine lv_istore (lv' := [(6, .int t0), (0, .int l0), (2, .ref l2), (5, .int l5)]) hx hb dJ6_getChars_ba4f3_12 hl (by decide) rfl (fun ls hl => ?_)
    refine lv_iload hx hb dJ6_getChars_ba4f3_14 (lv_at hl 0 rfl) ?_
    refine lv_if_ne (tgt := 22) hx hb dJ6_getChars_ba4f3_16 (by decide) (fun c1 => ?_) (fun c1 => ?_)
    · have hf := (if_neg c1).mp hf
      exact hL22 4096 S l0 l2 l5 t0 hf H locs ls hH (lv_sub hl [1, 2, 3, 0] rfl)
    · have hf := (if_pos c1).mp hf
      refine lv_iload_n hx hb dJ6_getChars_ba4f3_19 rfl (lv_at hl 1 rfl) ?_
      refine lv_ineg hx hb dJ6_getChars_ba4f3_20 ?_
      refine lv_istore_n (lv' := [(0, .int (-l0)), (6, .int t0), (2, .ref l2), (5, .int l5)]) hx hb dJ6_getChars_ba4f3_21 rfl hl (by decide) rfl (fun ls hl => ?_)
      exact hL22 4096 S (-l0) l2 l5 t0 hf H locs ls hH (lv_sub hl [0, 2, 3, 1] rfl)
  refine lv_iload_n hx hb dJ6_getChars_ba4f3_0 rfl (lv_at hl 1 rfl) ?_
  refine lv_istore (lv' := [(5, .int a1), (0, .int a0), (1, .int a1), (2, .ref a2)]) hx hb dJ6_getChars_ba4f3_1 hl (by decide) rfl (fun ls hl => ?_)
  refine lv_iload_n hx hb dJ6_getChars_ba4f3_3 rfl (lv_at hl 1 rfl) ?_
  refine lv_if_ge (tgt := 11) hx hb dJ6_getChars_ba4f3_4 (by decide) (fun c1 => ?_) (fun c1 => ?_)
  · have hf := (if_pos c1).mp hf
    refine lv_iconst (v := 0) hx hb dJ6_getChars_ba4f3_11 (by decide) ?_
    exact hJ12 S a0 a2 a1 0 hf H locs ls hH (lv_sub hl [1, 3, 0] rfl)
  · have hf := (if_neg c1).mp hf
    refine lv_iconst (v := 1) hx hb dJ6_getChars_ba4f3_7 (by decide) ?_
    refine lv_goto (tgt := 12) hx hb dJ6_getChars_ba4f3_8 (by decide) ?_
    exact hJ12 S a0 a2 a1 1 hf H locs ls hH (lv_sub hl [1, 3, 0] rfl)
-- J6_stringSize_0f7a4
def f_J6_stringSize_0f7a4_J42 (post : Int32 → PS → Prop) (S : PS) (l1 : Int32) : Prop :=
  post ((10 : Int32) + l1) S
def f_J6_stringSize_0f7a4_J27 (post : Int32 → PS → Prop) (S : PS) (l1 : Int32) (l3 : Int32) : Prop :=
  post (l3 + l1) S
def f_J6_stringSize_0f7a4_L16 (post : Int32 → PS → Prop) : Nat → PS → Int32 → Int32 → Int32 → Int32 → Prop
  | 0, _, _, _, _, _ => False
  | n + 1, S, l0, l1, l2, l3 =>
  if 10 ≤ l3 then
    f_J6_stringSize_0f7a4_J42 post S l1
  else
    if l0 ≤ l2 then
      (f_J6_stringSize_0f7a4_L16 post n) S l0 l1 ((10 : Int32) * l2) (l3 + 1)
    else
      f_J6_stringSize_0f7a4_J27 post S l1 l3
def f_J6_stringSize_0f7a4_J11 (post : Int32 → PS → Prop) (S : PS) (l0 : Int32) (l1 : Int32) : Prop :=
  f_J6_stringSize_0f7a4_L16 post 4096 S l0 l1 (-10) 1
def f_J6_stringSize_0f7a4 (S : PS) (a0 : Int32) (post : Int32 → PS → Prop) : Prop :=
  if a0 < 0 then
    f_J6_stringSize_0f7a4_J11 post S a0 1
  else
    f_J6_stringSize_0f7a4_J11 post S (-a0) 0
abbrev rm_J6_stringSize_0f7a4 : Room := { frames := 0, cells := 0, slots := 0, locals := 0 }
set_option maxHeartbeats 4000000 in
set_option maxRecDepth 100000 in
theorem c_J6_stringSize_0f7a4 (l : Launch) (D : va_G) (cy : Nat → ClassId) (G : p_GT) (hG : p_ok G) (S : PS) (a0 : Int32) (post : Int32 → PS → Prop) (sz : Nat) (hf : f_J6_stringSize_0f7a4 S a0 post) : p_Mi l D cy G S sz yJ6_stringSize_0f7a4 (Cond.code yJ6_stringSize_0f7a4 cJ6_stringSize_0f7a4 4 (some .int) :: wG) rm_J6_stringSize_0f7a4 [.int a0] 0 0 post := by
  refine q_start hG (Qc := fun A => va_Qi post (p_Post D cy A) A) mf_J6_stringSize_0f7a4 (Nat.le_of_ble_eq_true rfl) (own := RJ6) rfl ?_
  intro p e s m below meth c A X hr hlk hnm ls hl hH
  have hx := X.1.1
  have hb := X.1.2.1
  replace hl : lv_has ls 4 [(0, .int a0)] := hl
  obtain ⟨H, hHe⟩ : ∃ H, H = s.heap := ⟨_, rfl⟩
  obtain ⟨locs, hlo⟩ : ∃ locs : List Loc, locs = [] := ⟨_, rfl⟩
  rw [← hHe, ← hlo] at hH
  show W p l e rm_J6_stringSize_0f7a4 s m [.int a0].toArray below meth c s.heap [] 0 0 _ _
  rw [← hHe, ← hlo]
  have hJ11 : ∀ (S : PS) (l0 : Int32) (l1 : Int32), f_J6_stringSize_0f7a4_J11 post S l0 l1 → ∀ (H : Heap) (locs : List Loc) (ls : Array Slot), p_H D cy S A s H locs → lv_has ls 4 [(0, .int l0), (1, .int l1)] → W p l e rm_J6_stringSize_0f7a4 s m [.int a0].toArray below meth c H locs 0 0 (MQ below (va_Qi post (p_Post D cy A) A) [.int a0].toArray s 0 0 A) (F0 m 11 ls []) := by
    intro S l0 l1 hf H locs ls hH hl
    have hL16 : ∀ (n16 : Nat) (S : PS) (l0 : Int32) (l1 : Int32) (l2 : Int32) (l3 : Int32), f_J6_stringSize_0f7a4_L16 post n16 S l0 l1 l2 l3 → ∀ (H : Heap) (locs : List Loc) (ls : Array Slot), p_H D cy S A s H locs → lv_has ls 4 [(0, .int l0), (1, .int l1), (2, .int l2), (3, .int l3)] → W p l e rm_J6_stringSize_0f7a4 s m [.int a0].toArray below meth c H locs 0 0 (MQ below (va_Qi post (p_Post D cy A) A) [.int a0].toArray s 0 0 A) (F0 m 16 ls []) := by
      intro n16
      induction n16 with
      | zero => intro S l0 l1 l2 l3 hf; exact hf.elim
      | succ n16 ih16 =>
        intro S l0 l1 l2 l3 hf H locs ls hH hl
        have hJ42 : ∀ (S : PS) (l1 : Int32), f_J6_stringSize_0f7a4_J42 post S l1 → ∀ (H : Heap) (locs : List Loc) (ls : Array Slot), p_H D cy S A s H locs → lv_has ls 4 [(1, .int l1)] → W p l e rm_J6_stringSize_0f7a4 s m [.int a0].toArray below meth c H locs 0 0 (MQ below (va_Qi post (p_Post D cy A) A) [.int a0].toArray s 0 0 A) (F0 m 42 ls []) := by
          intro S l1 hf H locs ls hH hl
          refine lv_bipush (v := 10) hx hb dJ6_stringSize_0f7a4_42 (by decide) ?_
          refine lv_iload_n hx hb dJ6_stringSize_0f7a4_44 rfl (lv_at hl 0 rfl) ?_
          refine lv_iadd hx hb dJ6_stringSize_0f7a4_45 ?_
          exact q_retI X hH hr hlk hf (Nat.zero_le _) (Nat.zero_le _) dJ6_stringSize_0f7a4_46
        have hJ27 : ∀ (S : PS) (l1 : Int32) (l3 : Int32), f_J6_stringSize_0f7a4_J27 post S l1 l3 → ∀ (H : Heap) (locs : List Loc) (ls : Array Slot), p_H D cy S A s H locs → lv_has ls 4 [(1, .int l1), (3, .int l3)] → W p l e rm_J6_stringSize_0f7a4 s m [.int a0].toArray below meth c H locs 0 0 (MQ below (va_Qi post (p_Post D cy A) A) [.int a0].toArray s 0 0 A) (F0 m 27 ls []) := by
          intro S l1 l3 hf H locs ls hH hl
          refine lv_iload_n hx hb dJ6_stringSize_0f7a4_27 rfl (lv_at hl 1 rfl) ?_
          refine lv_iload_n hx hb dJ6_stringSize_0f7a4_28 rfl (lv_at hl 0 rfl) ?_
          refine lv_iadd hx hb dJ6_stringSize_0f7a4_29 ?_
          exact q_retI X hH hr hlk hf (Nat.zero_le _) (Nat.zero_le _) dJ6_stringSize_0f7a4_30
        refine lv_iload_n hx hb dJ6_stringSize_0f7a4_16 rfl (lv_at hl 3 rfl) ?_
        refine lv_bipush (v := 10) hx hb dJ6_stringSize_0f7a4_17 (by decide) ?_
        refine lv_icmp_ge (tgt := 42) hx hb dJ6_stringSize_0f7a4_19 (by decide) (fun c1 => ?_) (fun c1 => ?_)
        · have hf := (if_pos c1).mp hf
          exact hJ42 S l1 hf H locs ls hH (lv_sub hl [1] rfl)
        · have hf := (if_neg c1).mp hf
          refine lv_iload_n hx hb dJ6_stringSize_0f7a4_22 rfl (lv_at hl 0 rfl) ?_
          refine lv_iload_n hx hb dJ6_stringSize_0f7a4_23 rfl (lv_at hl 2 rfl) ?_
          refine lv_icmp_le (tgt := 31) hx hb dJ6_stringSize_0f7a4_24 (by decide) (fun c2 => ?_) (fun c2 => ?_)
          · have hf := (if_pos c2).mp hf
            refine lv_bipush (v := 10) hx hb dJ6_stringSize_0f7a4_31 (by decide) ?_
            refine lv_iload_n hx hb dJ6_stringSize_0f7a4_33 rfl (lv_at hl 2 rfl) ?_
            refine lv_imul hx hb dJ6_stringSize_0f7a4_34 ?_
            refine lv_istore_n (lv' := [(2, .int ((10 : Int32) * l2)), (0, .int l0), (1, .int l1), (3, .int l3)]) hx hb dJ6_stringSize_0f7a4_35 rfl hl (by decide) rfl (fun ls hl => ?_)
            refine lv_iinc (v := l3 + 1) (lv' := [(3, .int (l3 + 1)), (2, .int ((10 : Int32) * l2)), (0, .int l0), (1, .int l1)]) hx hb dJ6_stringSize_0f7a4_36 hl (k := 3) rfl rfl (by decide) rfl (fun ls hl => ?_)
            refine lv_goto (tgt := 16) hx hb dJ6_stringSize_0f7a4_39 (by decide) ?_
            exact ih16 S l0 l1 ((10 : Int32) * l2) (l3 + 1) hf H locs ls hH (lv_sub hl [2, 3, 1, 0] rfl)
          · have hf := (if_neg c2).mp hf
            exact hJ27 S l1 l3 hf H locs ls hH (lv_sub hl [1, 3] rfl)
    refine lv_bipush (v := (-10)) hx hb dJ6_stringSize_0f7a4_11 (by decide) ?_
    refine lv_istore_n (lv' := [(2, .int ((-10))), (0, .int l0), (1, .int l1)]) hx hb dJ6_stringSize_0f7a4_13 rfl hl (by decide) rfl (fun ls hl => ?_)
    refine lv_iconst (v := 1) hx hb dJ6_stringSize_0f7a4_14 (by decide) ?_
    refine lv_istore_n (lv' := [(3, .int 1), (2, .int ((-10))), (0, .int l0), (1, .int l1)]) hx hb dJ6_stringSize_0f7a4_15 rfl hl (by decide) rfl (fun ls hl => ?_)
    exact hL16 4096 S l0 l1 (-10) 1 hf H locs ls hH (lv_sub hl [2, 3, 1, 0] rfl)
  refine lv_iconst (v := 1) hx hb dJ6_stringSize_0f7a4_0 (by decide) ?_
  refine lv_istore_n (lv' := [(1, .int 1), (0, .int a0)]) hx hb dJ6_stringSize_0f7a4_1 rfl hl (by decide) rfl (fun ls hl => ?_)
  refine lv_iload_n hx hb dJ6_stringSize_0f7a4_2 rfl (lv_at hl 1 rfl) ?_
  refine lv_if_lt (tgt := 11) hx hb dJ6_stringSize_0f7a4_3 (by decide) (fun c1 => ?_) (fun c1 => ?_)
  · have hf := (if_pos c1).mp hf
    exact hJ11 S a0 1 hf H locs ls hH (lv_sub hl [1, 0] rfl)
  · have hf := (if_neg c1).mp hf
    refine lv_iconst (v := 0) hx hb dJ6_stringSize_0f7a4_6 (by decide) ?_
    refine lv_istore_n (lv' := [(1, .int 0), (0, .int a0)]) hx hb dJ6_stringSize_0f7a4_7 rfl hl (by decide) rfl (fun ls hl => ?_)
    refine lv_iload_n hx hb dJ6_stringSize_0f7a4_8 rfl (lv_at hl 1 rfl) ?_
    refine lv_ineg hx hb dJ6_stringSize_0f7a4_9 ?_
    refine lv_istore_n (lv' := [(0, .int (-a0)), (1, .int 0)]) hx hb dJ6_stringSize_0f7a4_10 rfl hl (by decide) rfl (fun ls hl => ?_)
    exact hJ11 S (-a0) 0 hf H locs ls hH hl
-- J6_numberOfTrailingZeros_0f7a4
def f_J6_numberOfTrailingZeros_0f7a4_J74 (post : Int32 → PS → Prop) (S : PS) (l0 : Int32) (l1 : Int32) : Prop :=
  post (l1 + (((l0).toUInt32 >>> (((1 : Int32)).toUInt32 &&& Int32.toUInt32 31)).toInt32)) S
def f_J6_numberOfTrailingZeros_0f7a4_J62 (post : Int32 → PS → Prop) (S : PS) (l0 : Int32) (l1 : Int32) : Prop :=
  if l0 ≤ 4 then
    f_J6_numberOfTrailingZeros_0f7a4_J74 post S l0 l1
  else
    f_J6_numberOfTrailingZeros_0f7a4_J74 post S (((l0).toUInt32 >>> (((2 : Int32)).toUInt32 &&& Int32.toUInt32 31)).toInt32) (l1 + 2)
def f_J6_numberOfTrailingZeros_0f7a4_J49 (post : Int32 → PS → Prop) (S : PS) (l0 : Int32) (l1 : Int32) : Prop :=
  if l0 ≤ 16 then
    f_J6_numberOfTrailingZeros_0f7a4_J62 post S l0 l1
  else
    f_J6_numberOfTrailingZeros_0f7a4_J62 post S (((l0).toUInt32 >>> (((4 : Int32)).toUInt32 &&& Int32.toUInt32 31)).toInt32) (l1 + 4)
def f_J6_numberOfTrailingZeros_0f7a4_J34 (post : Int32 → PS → Prop) (S : PS) (l0 : Int32) (l1 : Int32) : Prop :=
  if l0 ≤ 256 then
    f_J6_numberOfTrailingZeros_0f7a4_J49 post S l0 l1
  else
    f_J6_numberOfTrailingZeros_0f7a4_J49 post S (((l0).toUInt32 >>> (((8 : Int32)).toUInt32 &&& Int32.toUInt32 31)).toInt32) (l1 + 8)
def f_J6_numberOfTrailingZeros_0f7a4 (S : PS) (a0 : Int32) (post : Int32 → PS → Prop) : Prop :=
  if 0 < ((a0 ^^^ (-1)) &&& (a0 - 1)) then
    if ((a0 ^^^ (-1)) &&& (a0 - 1)) ≤ 65536 then
      f_J6_numberOfTrailingZeros_0f7a4_J34 post S ((a0 ^^^ (-1)) &&& (a0 - 1)) 1
    else
      f_J6_numberOfTrailingZeros_0f7a4_J34 post S (((((a0 ^^^ (-1)) &&& (a0 - 1))).toUInt32 >>> (((16 : Int32)).toUInt32 &&& Int32.toUInt32 31)).toInt32) (1 + 16)
  else
    post (((a0 ^^^ (-1)) &&& (a0 - 1)) &&& 32) S
abbrev rm_J6_numberOfTrailingZeros_0f7a4 : Room := { frames := 0, cells := 0, slots := 0, locals := 0 }
set_option maxHeartbeats 4000000 in
set_option maxRecDepth 100000 in
theorem c_J6_numberOfTrailingZeros_0f7a4 (l : Launch) (D : va_G) (cy : Nat → ClassId) (G : p_GT) (hG : p_ok G) (S : PS) (a0 : Int32) (post : Int32 → PS → Prop) (sz : Nat) (hf : f_J6_numberOfTrailingZeros_0f7a4 S a0 post) : p_Mi l D cy G S sz yJ6_numberOfTrailingZeros_0f7a4 (Cond.code yJ6_numberOfTrailingZeros_0f7a4 cJ6_numberOfTrailingZeros_0f7a4 2 (some .int) :: wG) rm_J6_numberOfTrailingZeros_0f7a4 [.int a0] 0 0 post := by
  refine q_start hG (Qc := fun A => va_Qi post (p_Post D cy A) A) mf_J6_numberOfTrailingZeros_0f7a4 (Nat.le_of_ble_eq_true rfl) (own := RJ6) rfl ?_
  intro p e s m below meth c A X hr hlk hnm ls hl hH
  have hx := X.1.1
  have hb := X.1.2.1
  replace hl : lv_has ls 2 [(0, .int a0)] := hl
  obtain ⟨H, hHe⟩ : ∃ H, H = s.heap := ⟨_, rfl⟩
  obtain ⟨locs, hlo⟩ : ∃ locs : List Loc, locs = [] := ⟨_, rfl⟩
  rw [← hHe, ← hlo] at hH
  show W p l e rm_J6_numberOfTrailingZeros_0f7a4 s m [.int a0].toArray below meth c s.heap [] 0 0 _ _
  rw [← hHe, ← hlo]
  have hJ34 : ∀ (S : PS) (l0 : Int32) (l1 : Int32), f_J6_numberOfTrailingZeros_0f7a4_J34 post S l0 l1 → ∀ (H : Heap) (locs : List Loc) (ls : Array Slot), p_H D cy S A s H locs → lv_has ls 2 [(0, .int l0), (1, .int l1)] → W p l e rm_J6_numberOfTrailingZeros_0f7a4 s m [.int a0].toArray below meth c H locs 0 0 (MQ below (va_Qi post (p_Post D cy A) A) [.int a0].toArray s 0 0 A) (F0 m 34 ls []) := by
    intro S l0 l1 hf H locs ls hH hl
    have hJ49 : ∀ (S : PS) (l0 : Int32) (l1 : Int32), f_J6_numberOfTrailingZeros_0f7a4_J49 post S l0 l1 → ∀ (H : Heap) (locs : List Loc) (ls : Array Slot), p_H D cy S A s H locs → lv_has ls 2 [(0, .int l0), (1, .int l1)] → W p l e rm_J6_numberOfTrailingZeros_0f7a4 s m [.int a0].toArray below meth c H locs 0 0 (MQ below (va_Qi post (p_Post D cy A) A) [.int a0].toArray s 0 0 A) (F0 m 49 ls []) := by
      intro S l0 l1 hf H locs ls hH hl
      have hJ62 : ∀ (S : PS) (l0 : Int32) (l1 : Int32), f_J6_numberOfTrailingZeros_0f7a4_J62 post S l0 l1 → ∀ (H : Heap) (locs : List Loc) (ls : Array Slot), p_H D cy S A s H locs → lv_has ls 2 [(0, .int l0), (1, .int l1)] → W p l e rm_J6_numberOfTrailingZeros_0f7a4 s m [.int a0].toArray below meth c H locs 0 0 (MQ below (va_Qi post (p_Post D cy A) A) [.int a0].toArray s 0 0 A) (F0 m 62 ls []) := by
        intro S l0 l1 hf H locs ls hH hl
        have hJ74 : ∀ (S : PS) (l0 : Int32) (l1 : Int32), f_J6_numberOfTrailingZeros_0f7a4_J74 post S l0 l1 → ∀ (H : Heap) (locs : List Loc) (ls : Array Slot), p_H D cy S A s H locs → lv_has ls 2 [(0, .int l0), (1, .int l1)] → W p l e rm_J6_numberOfTrailingZeros_0f7a4 s m [.int a0].toArray below meth c H locs 0 0 (MQ below (va_Qi post (p_Post D cy A) A) [.int a0].toArray s 0 0 A) (F0 m 74 ls []) := by
          intro S l0 l1 hf H locs ls hH hl
          refine lv_iload_n hx hb dJ6_numberOfTrailingZeros_0f7a4_74 rfl (lv_at hl 1 rfl) ?_
          refine lv_iload_n hx hb dJ6_numberOfTrailingZeros_0f7a4_75 rfl (lv_at hl 0 rfl) ?_
          refine lv_iconst (v := 1) hx hb dJ6_numberOfTrailingZeros_0f7a4_76 (by decide) ?_
          refine lv_iushr (v := ((l0).toUInt32 >>> (((1 : Int32)).toUInt32 &&& Int32.toUInt32 31)).toInt32) hx hb dJ6_numberOfTrailingZeros_0f7a4_77 rfl ?_
          refine lv_iadd hx hb dJ6_numberOfTrailingZeros_0f7a4_78 ?_
          exact q_retI X hH hr hlk hf (Nat.zero_le _) (Nat.zero_le _) dJ6_numberOfTrailingZeros_0f7a4_79
        refine lv_iload_n hx hb dJ6_numberOfTrailingZeros_0f7a4_62 rfl (lv_at hl 0 rfl) ?_
        refine lv_iconst (v := 4) hx hb dJ6_numberOfTrailingZeros_0f7a4_63 (by decide) ?_
        refine lv_icmp_le (tgt := 74) hx hb dJ6_numberOfTrailingZeros_0f7a4_64 (by decide) (fun c1 => ?_) (fun c1 => ?_)
        · have hf := (if_pos c1).mp hf
          exact hJ74 S l0 l1 hf H locs ls hH hl
        · have hf := (if_neg c1).mp hf
          refine lv_iinc (v := l1 + 2) (lv' := [(1, .int (l1 + 2)), (0, .int l0)]) hx hb dJ6_numberOfTrailingZeros_0f7a4_67 hl (k := 1) rfl rfl (by decide) rfl (fun ls hl => ?_)
          refine lv_iload_n hx hb dJ6_numberOfTrailingZeros_0f7a4_70 rfl (lv_at hl 1 rfl) ?_
          refine lv_iconst (v := 2) hx hb dJ6_numberOfTrailingZeros_0f7a4_71 (by decide) ?_
          refine lv_iushr (v := ((l0).toUInt32 >>> (((2 : Int32)).toUInt32 &&& Int32.toUInt32 31)).toInt32) hx hb dJ6_numberOfTrailingZeros_0f7a4_72 rfl ?_
          refine lv_istore_n (lv' := [(0, .int (((l0).toUInt32 >>> (((2 : Int32)).toUInt32 &&& Int32.toUInt32 31)).toInt32)), (1, .int (l1 + 2))]) hx hb dJ6_numberOfTrailingZeros_0f7a4_73 rfl hl (by decide) rfl (fun ls hl => ?_)
          exact hJ74 S (((l0).toUInt32 >>> (((2 : Int32)).toUInt32 &&& Int32.toUInt32 31)).toInt32) (l1 + 2) hf H locs ls hH hl
      refine lv_iload_n hx hb dJ6_numberOfTrailingZeros_0f7a4_49 rfl (lv_at hl 0 rfl) ?_
      refine lv_bipush (v := 16) hx hb dJ6_numberOfTrailingZeros_0f7a4_50 (by decide) ?_
      refine lv_icmp_le (tgt := 62) hx hb dJ6_numberOfTrailingZeros_0f7a4_52 (by decide) (fun c1 => ?_) (fun c1 => ?_)
      · have hf := (if_pos c1).mp hf
        exact hJ62 S l0 l1 hf H locs ls hH hl
      · have hf := (if_neg c1).mp hf
        refine lv_iinc (v := l1 + 4) (lv' := [(1, .int (l1 + 4)), (0, .int l0)]) hx hb dJ6_numberOfTrailingZeros_0f7a4_55 hl (k := 1) rfl rfl (by decide) rfl (fun ls hl => ?_)
        refine lv_iload_n hx hb dJ6_numberOfTrailingZeros_0f7a4_58 rfl (lv_at hl 1 rfl) ?_
        refine lv_iconst (v := 4) hx hb dJ6_numberOfTrailingZeros_0f7a4_59 (by decide) ?_
        refine lv_iushr (v := ((l0).toUInt32 >>> (((4 : Int32)).toUInt32 &&& Int32.toUInt32 31)).toInt32) hx hb dJ6_numberOfTrailingZeros_0f7a4_60 rfl ?_
        refine lv_istore_n (lv' := [(0, .int (((l0).toUInt32 >>> (((4 : Int32)).toUInt32 &&& Int32.toUInt32 31)).toInt32)), (1, .int (l1 + 4))]) hx hb dJ6_numberOfTrailingZeros_0f7a4_61 rfl hl (by decide) rfl (fun ls hl => ?_)
        exact hJ62 S (((l0).toUInt32 >>> (((4 : Int32)).toUInt32 &&& Int32.toUInt32 31)).toInt32) (l1 + 4) hf H locs ls hH hl
    refine lv_iload_n hx hb dJ6_numberOfTrailingZeros_0f7a4_34 rfl (lv_at hl 0 rfl) ?_
    refine lv_sipush (v := 256) hx hb dJ6_numberOfTrailingZeros_0f7a4_35 (by decide) ?_
    refine lv_icmp_le (tgt := 49) hx hb dJ6_numberOfTrailingZeros_0f7a4_38 (by decide) (fun c1 => ?_) (fun c1 => ?_)
    · have hf := (if_pos c1).mp hf
      exact hJ49 S l0 l1 hf H locs ls hH hl
    · have hf := (if_neg c1).mp hf
      refine lv_iinc (v := l1 + 8) (lv' := [(1, .int (l1 + 8)), (0, .int l0)]) hx hb dJ6_numberOfTrailingZeros_0f7a4_41 hl (k := 1) rfl rfl (by decide) rfl (fun ls hl => ?_)
      refine lv_iload_n hx hb dJ6_numberOfTrailingZeros_0f7a4_44 rfl (lv_at hl 1 rfl) ?_
      refine lv_bipush (v := 8) hx hb dJ6_numberOfTrailingZeros_0f7a4_45 (by decide) ?_
      refine lv_iushr (v := ((l0).toUInt32 >>> (((8 : Int32)).toUInt32 &&& Int32.toUInt32 31)).toInt32) hx hb dJ6_numberOfTrailingZeros_0f7a4_47 rfl ?_
      refine lv_istore_n (lv' := [(0, .int (((l0).toUInt32 >>> (((8 : Int32)).toUInt32 &&& Int32.toUInt32 31)).toInt32)), (1, .int (l1 + 8))]) hx hb dJ6_numberOfTrailingZeros_0f7a4_48 rfl hl (by decide) rfl (fun ls hl => ?_)
      exact hJ49 S (((l0).toUInt32 >>> (((8 : Int32)).toUInt32 &&& Int32.toUInt32 31)).toInt32) (l1 + 8) hf H locs ls hH hl
  refine lv_iload_n hx hb dJ6_numberOfTrailingZeros_0f7a4_0 rfl (lv_at hl 0 rfl) ?_
  refine lv_iconst (v := (-1)) hx hb dJ6_numberOfTrailingZeros_0f7a4_1 (by decide) ?_
  refine lv_ixor hx hb dJ6_numberOfTrailingZeros_0f7a4_2 ?_
  refine lv_iload_n hx hb dJ6_numberOfTrailingZeros_0f7a4_3 rfl (lv_at hl 0 rfl) ?_
  refine lv_iconst (v := 1) hx hb dJ6_numberOfTrailingZeros_0f7a4_4 (by decide) ?_
  refine lv_isub hx hb dJ6_numberOfTrailingZeros_0f7a4_5 ?_
  refine lv_iand hx hb dJ6_numberOfTrailingZeros_0f7a4_6 ?_
  refine lv_istore_n (lv' := [(0, .int ((a0 ^^^ (-1)) &&& (a0 - 1)))]) hx hb dJ6_numberOfTrailingZeros_0f7a4_7 rfl hl (by decide) rfl (fun ls hl => ?_)
  refine lv_iload_n hx hb dJ6_numberOfTrailingZeros_0f7a4_8 rfl (lv_at hl 0 rfl) ?_
  refine lv_if_gt (tgt := 17) hx hb dJ6_numberOfTrailingZeros_0f7a4_9 (by decide) (fun c1 => ?_) (fun c1 => ?_)
  · have hf := (if_pos c1).mp hf
    refine lv_iconst (v := 1) hx hb dJ6_numberOfTrailingZeros_0f7a4_17 (by decide) ?_
    refine lv_istore_n (lv' := [(1, .int 1), (0, .int ((a0 ^^^ (-1)) &&& (a0 - 1)))]) hx hb dJ6_numberOfTrailingZeros_0f7a4_18 rfl hl (by decide) rfl (fun ls hl => ?_)
    refine lv_iload_n hx hb dJ6_numberOfTrailingZeros_0f7a4_19 rfl (lv_at hl 1 rfl) ?_
    refine lv_ldcw (v := 65536) hx hb X.1.2.2.2.1 (X.1.2.2.2.2 _ tw_1209) dJ6_numberOfTrailingZeros_0f7a4_20 ?_
    refine lv_icmp_le (tgt := 34) hx hb dJ6_numberOfTrailingZeros_0f7a4_23 (by decide) (fun c2 => ?_) (fun c2 => ?_)
    · have hf := (if_pos c2).mp hf
      exact hJ34 S ((a0 ^^^ (-1)) &&& (a0 - 1)) 1 hf H locs ls hH (lv_sub hl [1, 0] rfl)
    · have hf := (if_neg c2).mp hf
      refine lv_iinc (v := 1 + 16) (lv' := [(1, .int (1 + 16)), (0, .int ((a0 ^^^ (-1)) &&& (a0 - 1)))]) hx hb dJ6_numberOfTrailingZeros_0f7a4_26 hl (k := 0) rfl rfl (by decide) rfl (fun ls hl => ?_)
      refine lv_iload_n hx hb dJ6_numberOfTrailingZeros_0f7a4_29 rfl (lv_at hl 1 rfl) ?_
      refine lv_bipush (v := 16) hx hb dJ6_numberOfTrailingZeros_0f7a4_30 (by decide) ?_
      refine lv_iushr (v := ((((a0 ^^^ (-1)) &&& (a0 - 1))).toUInt32 >>> (((16 : Int32)).toUInt32 &&& Int32.toUInt32 31)).toInt32) hx hb dJ6_numberOfTrailingZeros_0f7a4_32 rfl ?_
      refine lv_istore_n (lv' := [(0, .int (((((a0 ^^^ (-1)) &&& (a0 - 1))).toUInt32 >>> (((16 : Int32)).toUInt32 &&& Int32.toUInt32 31)).toInt32)), (1, .int (1 + 16))]) hx hb dJ6_numberOfTrailingZeros_0f7a4_33 rfl hl (by decide) rfl (fun ls hl => ?_)
      exact hJ34 S (((((a0 ^^^ (-1)) &&& (a0 - 1))).toUInt32 >>> (((16 : Int32)).toUInt32 &&& Int32.toUInt32 31)).toInt32) (1 + 16) hf H locs ls hH hl
  · have hf := (if_neg c1).mp hf
    refine lv_iload_n hx hb dJ6_numberOfTrailingZeros_0f7a4_12 rfl (lv_at hl 0 rfl) ?_
    refine lv_bipush (v := 32) hx hb dJ6_numberOfTrailingZeros_0f7a4_13 (by decide) ?_
    refine lv_iand hx hb dJ6_numberOfTrailingZeros_0f7a4_15 ?_
    exact q_retI X hH hr hlk hf (Nat.zero_le _) (Nat.zero_le _) dJ6_numberOfTrailingZeros_0f7a4_16
-- J6_bitCount_0f7a4
def f_J6_bitCount_0f7a4 (S : PS) (a0 : Int32) (post : Int32 → PS → Prop) : Prop :=
  post ((((((((a0 - ((((a0).toUInt32 >>> (((1 : Int32)).toUInt32 &&& Int32.toUInt32 31)).toInt32) &&& 1431655765)) &&& 858993459) + (((((a0 - ((((a0).toUInt32 >>> (((1 : Int32)).toUInt32 &&& Int32.toUInt32 31)).toInt32) &&& 1431655765))).toUInt32 >>> (((2 : Int32)).toUInt32 &&& Int32.toUInt32 31)).toInt32) &&& 858993459)) + ((((((a0 - ((((a0).toUInt32 >>> (((1 : Int32)).toUInt32 &&& Int32.toUInt32 31)).toInt32) &&& 1431655765)) &&& 858993459) + (((((a0 - ((((a0).toUInt32 >>> (((1 : Int32)).toUInt32 &&& Int32.toUInt32 31)).toInt32) &&& 1431655765))).toUInt32 >>> (((2 : Int32)).toUInt32 &&& Int32.toUInt32 31)).toInt32) &&& 858993459))).toUInt32 >>> (((4 : Int32)).toUInt32 &&& Int32.toUInt32 31)).toInt32)) &&& 252645135) + ((((((((a0 - ((((a0).toUInt32 >>> (((1 : Int32)).toUInt32 &&& Int32.toUInt32 31)).toInt32) &&& 1431655765)) &&& 858993459) + (((((a0 - ((((a0).toUInt32 >>> (((1 : Int32)).toUInt32 &&& Int32.toUInt32 31)).toInt32) &&& 1431655765))).toUInt32 >>> (((2 : Int32)).toUInt32 &&& Int32.toUInt32 31)).toInt32) &&& 858993459)) + ((((((a0 - ((((a0).toUInt32 >>> (((1 : Int32)).toUInt32 &&& Int32.toUInt32 31)).toInt32) &&& 1431655765)) &&& 858993459) + (((((a0 - ((((a0).toUInt32 >>> (((1 : Int32)).toUInt32 &&& Int32.toUInt32 31)).toInt32) &&& 1431655765))).toUInt32 >>> (((2 : Int32)).toUInt32 &&& Int32.toUInt32 31)).toInt32) &&& 858993459))).toUInt32 >>> (((4 : Int32)).toUInt32 &&& Int32.toUInt32 31)).toInt32)) &&& 252645135)).toUInt32 >>> (((8 : Int32)).toUInt32 &&& Int32.toUInt32 31)).toInt32)) + (((((((((a0 - ((((a0).toUInt32 >>> (((1 : Int32)).toUInt32 &&& Int32.toUInt32 31)).toInt32) &&& 1431655765)) &&& 858993459) + (((((a0 - ((((a0).toUInt32 >>> (((1 : Int32)).toUInt32 &&& Int32.toUInt32 31)).toInt32) &&& 1431655765))).toUInt32 >>> (((2 : Int32)).toUInt32 &&& Int32.toUInt32 31)).toInt32) &&& 858993459)) + ((((((a0 - ((((a0).toUInt32 >>> (((1 : Int32)).toUInt32 &&& Int32.toUInt32 31)).toInt32) &&& 1431655765)) &&& 858993459) + (((((a0 - ((((a0).toUInt32 >>> (((1 : Int32)).toUInt32 &&& Int32.toUInt32 31)).toInt32) &&& 1431655765))).toUInt32 >>> (((2 : Int32)).toUInt32 &&& Int32.toUInt32 31)).toInt32) &&& 858993459))).toUInt32 >>> (((4 : Int32)).toUInt32 &&& Int32.toUInt32 31)).toInt32)) &&& 252645135) + ((((((((a0 - ((((a0).toUInt32 >>> (((1 : Int32)).toUInt32 &&& Int32.toUInt32 31)).toInt32) &&& 1431655765)) &&& 858993459) + (((((a0 - ((((a0).toUInt32 >>> (((1 : Int32)).toUInt32 &&& Int32.toUInt32 31)).toInt32) &&& 1431655765))).toUInt32 >>> (((2 : Int32)).toUInt32 &&& Int32.toUInt32 31)).toInt32) &&& 858993459)) + ((((((a0 - ((((a0).toUInt32 >>> (((1 : Int32)).toUInt32 &&& Int32.toUInt32 31)).toInt32) &&& 1431655765)) &&& 858993459) + (((((a0 - ((((a0).toUInt32 >>> (((1 : Int32)).toUInt32 &&& Int32.toUInt32 31)).toInt32) &&& 1431655765))).toUInt32 >>> (((2 : Int32)).toUInt32 &&& Int32.toUInt32 31)).toInt32) &&& 858993459))).toUInt32 >>> (((4 : Int32)).toUInt32 &&& Int32.toUInt32 31)).toInt32)) &&& 252645135)).toUInt32 >>> (((8 : Int32)).toUInt32 &&& Int32.toUInt32 31)).toInt32))).toUInt32 >>> (((16 : Int32)).toUInt32 &&& Int32.toUInt32 31)).toInt32)) &&& 63) S
abbrev rm_J6_bitCount_0f7a4 : Room := { frames := 0, cells := 0, slots := 0, locals := 0 }
set_option maxHeartbeats 4000000 in
set_option maxRecDepth 100000 in
theorem c_J6_bitCount_0f7a4 (l : Launch) (D : va_G) (cy : Nat → ClassId) (G : p_GT) (hG : p_ok G) (S : PS) (a0 : Int32) (post : Int32 → PS → Prop) (sz : Nat) (hf : f_J6_bitCount_0f7a4 S a0 post) : p_Mi l D cy G S sz yJ6_bitCount_0f7a4 (Cond.code yJ6_bitCount_0f7a4 cJ6_bitCount_0f7a4 1 (some .int) :: wG) rm_J6_bitCount_0f7a4 [.int a0] 0 0 post := by
  refine q_start hG (Qc := fun A => va_Qi post (p_Post D cy A) A) mf_J6_bitCount_0f7a4 (Nat.le_of_ble_eq_true rfl) (own := RJ6) rfl ?_
  intro p e s m below meth c A X hr hlk hnm ls hl hH
  have hx := X.1.1
  have hb := X.1.2.1
  replace hl : lv_has ls 1 [(0, .int a0)] := hl
  obtain ⟨H, hHe⟩ : ∃ H, H = s.heap := ⟨_, rfl⟩
  obtain ⟨locs, hlo⟩ : ∃ locs : List Loc, locs = [] := ⟨_, rfl⟩
  rw [← hHe, ← hlo] at hH
  show W p l e rm_J6_bitCount_0f7a4 s m [.int a0].toArray below meth c s.heap [] 0 0 _ _
  rw [← hHe, ← hlo]
  refine lv_iload_n hx hb dJ6_bitCount_0f7a4_0 rfl (lv_at hl 0 rfl) ?_
  refine lv_iload_n hx hb dJ6_bitCount_0f7a4_1 rfl (lv_at hl 0 rfl) ?_
  refine lv_iconst (v := 1) hx hb dJ6_bitCount_0f7a4_2 (by decide) ?_
  refine lv_iushr (v := ((a0).toUInt32 >>> (((1 : Int32)).toUInt32 &&& Int32.toUInt32 31)).toInt32) hx hb dJ6_bitCount_0f7a4_3 rfl ?_
  refine lv_ldcw (v := 1431655765) hx hb X.1.2.2.2.1 (X.1.2.2.2.2 _ tw_851) dJ6_bitCount_0f7a4_4 ?_
  refine lv_iand hx hb dJ6_bitCount_0f7a4_7 ?_
  refine lv_isub hx hb dJ6_bitCount_0f7a4_8 ?_
  refine lv_istore_n (lv' := [(0, .int (a0 - ((((a0).toUInt32 >>> (((1 : Int32)).toUInt32 &&& Int32.toUInt32 31)).toInt32) &&& 1431655765)))]) hx hb dJ6_bitCount_0f7a4_9 rfl hl (by decide) rfl (fun ls hl => ?_)
  refine lv_iload_n hx hb dJ6_bitCount_0f7a4_10 rfl (lv_at hl 0 rfl) ?_
  refine lv_ldcw (v := 858993459) hx hb X.1.2.2.2.1 (X.1.2.2.2.2 _ tw_852) dJ6_bitCount_0f7a4_11 ?_
  refine lv_iand hx hb dJ6_bitCount_0f7a4_14 ?_
  refine lv_iload_n hx hb dJ6_bitCount_0f7a4_15 rfl (lv_at hl 0 rfl) ?_
  refine lv_iconst (v := 2) hx hb dJ6_bitCount_0f7a4_16 (by decide) ?_
  refine lv_iushr (v := (((a0 - ((((a0).toUInt32 >>> (((1 : Int32)).toUInt32 &&& Int32.toUInt32 31)).toInt32) &&& 1431655765))).toUInt32 >>> (((2 : Int32)).toUInt32 &&& Int32.toUInt32 31)).toInt32) hx hb dJ6_bitCount_0f7a4_17 rfl ?_
  refine lv_ldcw (v := 858993459) hx hb X.1.2.2.2.1 (X.1.2.2.2.2 _ tw_852) dJ6_bitCount_0f7a4_18 ?_
  refine lv_iand hx hb dJ6_bitCount_0f7a4_21 ?_
  refine lv_iadd hx hb dJ6_bitCount_0f7a4_22 ?_
  refine lv_istore_n (lv' := [(0, .int (((a0 - ((((a0).toUInt32 >>> (((1 : Int32)).toUInt32 &&& Int32.toUInt32 31)).toInt32) &&& 1431655765)) &&& 858993459) + (((((a0 - ((((a0).toUInt32 >>> (((1 : Int32)).toUInt32 &&& Int32.toUInt32 31)).toInt32) &&& 1431655765))).toUInt32 >>> (((2 : Int32)).toUInt32 &&& Int32.toUInt32 31)).toInt32) &&& 858993459)))]) hx hb dJ6_bitCount_0f7a4_23 rfl hl (by decide) rfl (fun ls hl => ?_)
  refine lv_iload_n hx hb dJ6_bitCount_0f7a4_24 rfl (lv_at hl 0 rfl) ?_
  refine lv_iload_n hx hb dJ6_bitCount_0f7a4_25 rfl (lv_at hl 0 rfl) ?_
  refine lv_iconst (v := 4) hx hb dJ6_bitCount_0f7a4_26 (by decide) ?_
  refine lv_iushr (v := (((((a0 - ((((a0).toUInt32 >>> (((1 : Int32)).toUInt32 &&& Int32.toUInt32 31)).toInt32) &&& 1431655765)) &&& 858993459) + (((((a0 - ((((a0).toUInt32 >>> (((1 : Int32)).toUInt32 &&& Int32.toUInt32 31)).toInt32) &&& 1431655765))).toUInt32 >>> (((2 : Int32)).toUInt32 &&& Int32.toUInt32 31)).toInt32) &&& 858993459))).toUInt32 >>> (((4 : Int32)).toUInt32 &&& Int32.toUInt32 31)).toInt32) hx hb dJ6_bitCount_0f7a4_27 rfl ?_
  refine lv_iadd hx hb dJ6_bitCount_0f7a4_28 ?_
  refine lv_ldcw (v := 252645135) hx hb X.1.2.2.2.1 (X.1.2.2.2.2 _ tw_853) dJ6_bitCount_0f7a4_29 ?_
  refine lv_iand hx hb dJ6_bitCount_0f7a4_32 ?_
  refine lv_istore_n (lv' := [(0, .int (((((a0 - ((((a0).toUInt32 >>> (((1 : Int32)).toUInt32 &&& Int32.toUInt32 31)).toInt32) &&& 1431655765)) &&& 858993459) + (((((a0 - ((((a0).toUInt32 >>> (((1 : Int32)).toUInt32 &&& Int32.toUInt32 31)).toInt32) &&& 1431655765))).toUInt32 >>> (((2 : Int32)).toUInt32 &&& Int32.toUInt32 31)).toInt32) &&& 858993459)) + ((((((a0 - ((((a0).toUInt32 >>> (((1 : Int32)).toUInt32 &&& Int32.toUInt32 31)).toInt32) &&& 1431655765)) &&& 858993459) + (((((a0 - ((((a0).toUInt32 >>> (((1 : Int32)).toUInt32 &&& Int32.toUInt32 31)).toInt32) &&& 1431655765))).toUInt32 >>> (((2 : Int32)).toUInt32 &&& Int32.toUInt32 31)).toInt32) &&& 858993459))).toUInt32 >>> (((4 : Int32)).toUInt32 &&& Int32.toUInt32 31)).toInt32)) &&& 252645135))]) hx hb dJ6_bitCount_0f7a4_33 rfl hl (by decide) rfl (fun ls hl => ?_)
  refine lv_iload_n hx hb dJ6_bitCount_0f7a4_34 rfl (lv_at hl 0 rfl) ?_
  refine lv_iload_n hx hb dJ6_bitCount_0f7a4_35 rfl (lv_at hl 0 rfl) ?_
  refine lv_bipush (v := 8) hx hb dJ6_bitCount_0f7a4_36 (by decide) ?_
  refine lv_iushr (v := (((((((a0 - ((((a0).toUInt32 >>> (((1 : Int32)).toUInt32 &&& Int32.toUInt32 31)).toInt32) &&& 1431655765)) &&& 858993459) + (((((a0 - ((((a0).toUInt32 >>> (((1 : Int32)).toUInt32 &&& Int32.toUInt32 31)).toInt32) &&& 1431655765))).toUInt32 >>> (((2 : Int32)).toUInt32 &&& Int32.toUInt32 31)).toInt32) &&& 858993459)) + ((((((a0 - ((((a0).toUInt32 >>> (((1 : Int32)).toUInt32 &&& Int32.toUInt32 31)).toInt32) &&& 1431655765)) &&& 858993459) + (((((a0 - ((((a0).toUInt32 >>> (((1 : Int32)).toUInt32 &&& Int32.toUInt32 31)).toInt32) &&& 1431655765))).toUInt32 >>> (((2 : Int32)).toUInt32 &&& Int32.toUInt32 31)).toInt32) &&& 858993459))).toUInt32 >>> (((4 : Int32)).toUInt32 &&& Int32.toUInt32 31)).toInt32)) &&& 252645135)).toUInt32 >>> (((8 : Int32)).toUInt32 &&& Int32.toUInt32 31)).toInt32) hx hb dJ6_bitCount_0f7a4_38 rfl ?_
  refine lv_iadd hx hb dJ6_bitCount_0f7a4_39 ?_
  refine lv_istore_n (lv' := [(0, .int ((((((a0 - ((((a0).toUInt32 >>> (((1 : Int32)).toUInt32 &&& Int32.toUInt32 31)).toInt32) &&& 1431655765)) &&& 858993459) + (((((a0 - ((((a0).toUInt32 >>> (((1 : Int32)).toUInt32 &&& Int32.toUInt32 31)).toInt32) &&& 1431655765))).toUInt32 >>> (((2 : Int32)).toUInt32 &&& Int32.toUInt32 31)).toInt32) &&& 858993459)) + ((((((a0 - ((((a0).toUInt32 >>> (((1 : Int32)).toUInt32 &&& Int32.toUInt32 31)).toInt32) &&& 1431655765)) &&& 858993459) + (((((a0 - ((((a0).toUInt32 >>> (((1 : Int32)).toUInt32 &&& Int32.toUInt32 31)).toInt32) &&& 1431655765))).toUInt32 >>> (((2 : Int32)).toUInt32 &&& Int32.toUInt32 31)).toInt32) &&& 858993459))).toUInt32 >>> (((4 : Int32)).toUInt32 &&& Int32.toUInt32 31)).toInt32)) &&& 252645135) + ((((((((a0 - ((((a0).toUInt32 >>> (((1 : Int32)).toUInt32 &&& Int32.toUInt32 31)).toInt32) &&& 1431655765)) &&& 858993459) + (((((a0 - ((((a0).toUInt32 >>> (((1 : Int32)).toUInt32 &&& Int32.toUInt32 31)).toInt32) &&& 1431655765))).toUInt32 >>> (((2 : Int32)).toUInt32 &&& Int32.toUInt32 31)).toInt32) &&& 858993459)) + ((((((a0 - ((((a0).toUInt32 >>> (((1 : Int32)).toUInt32 &&& Int32.toUInt32 31)).toInt32) &&& 1431655765)) &&& 858993459) + (((((a0 - ((((a0).toUInt32 >>> (((1 : Int32)).toUInt32 &&& Int32.toUInt32 31)).toInt32) &&& 1431655765))).toUInt32 >>> (((2 : Int32)).toUInt32 &&& Int32.toUInt32 31)).toInt32) &&& 858993459))).toUInt32 >>> (((4 : Int32)).toUInt32 &&& Int32.toUInt32 31)).toInt32)) &&& 252645135)).toUInt32 >>> (((8 : Int32)).toUInt32 &&& Int32.toUInt32 31)).toInt32)))]) hx hb dJ6_bitCount_0f7a4_40 rfl hl (by decide) rfl (fun ls hl => ?_)
  refine lv_iload_n hx hb dJ6_bitCount_0f7a4_41 rfl (lv_at hl 0 rfl) ?_
  refine lv_iload_n hx hb dJ6_bitCount_0f7a4_42 rfl (lv_at hl 0 rfl) ?_
  refine lv_bipush (v := 16) hx hb dJ6_bitCount_0f7a4_43 (by decide) ?_
  refine lv_iushr (v := ((((((((a0 - ((((a0).toUInt32 >>> (((1 : Int32)).toUInt32 &&& Int32.toUInt32 31)).toInt32) &&& 1431655765)) &&& 858993459) + (((((a0 - ((((a0).toUInt32 >>> (((1 : Int32)).toUInt32 &&& Int32.toUInt32 31)).toInt32) &&& 1431655765))).toUInt32 >>> (((2 : Int32)).toUInt32 &&& Int32.toUInt32 31)).toInt32) &&& 858993459)) + ((((((a0 - ((((a0).toUInt32 >>> (((1 : Int32)).toUInt32 &&& Int32.toUInt32 31)).toInt32) &&& 1431655765)) &&& 858993459) + (((((a0 - ((((a0).toUInt32 >>> (((1 : Int32)).toUInt32 &&& Int32.toUInt32 31)).toInt32) &&& 1431655765))).toUInt32 >>> (((2 : Int32)).toUInt32 &&& Int32.toUInt32 31)).toInt32) &&& 858993459))).toUInt32 >>> (((4 : Int32)).toUInt32 &&& Int32.toUInt32 31)).toInt32)) &&& 252645135) + ((((((((a0 - ((((a0).toUInt32 >>> (((1 : Int32)).toUInt32 &&& Int32.toUInt32 31)).toInt32) &&& 1431655765)) &&& 858993459) + (((((a0 - ((((a0).toUInt32 >>> (((1 : Int32)).toUInt32 &&& Int32.toUInt32 31)).toInt32) &&& 1431655765))).toUInt32 >>> (((2 : Int32)).toUInt32 &&& Int32.toUInt32 31)).toInt32) &&& 858993459)) + ((((((a0 - ((((a0).toUInt32 >>> (((1 : Int32)).toUInt32 &&& Int32.toUInt32 31)).toInt32) &&& 1431655765)) &&& 858993459) + (((((a0 - ((((a0).toUInt32 >>> (((1 : Int32)).toUInt32 &&& Int32.toUInt32 31)).toInt32) &&& 1431655765))).toUInt32 >>> (((2 : Int32)).toUInt32 &&& Int32.toUInt32 31)).toInt32) &&& 858993459))).toUInt32 >>> (((4 : Int32)).toUInt32 &&& Int32.toUInt32 31)).toInt32)) &&& 252645135)).toUInt32 >>> (((8 : Int32)).toUInt32 &&& Int32.toUInt32 31)).toInt32))).toUInt32 >>> (((16 : Int32)).toUInt32 &&& Int32.toUInt32 31)).toInt32) hx hb dJ6_bitCount_0f7a4_45 rfl ?_
  refine lv_iadd hx hb dJ6_bitCount_0f7a4_46 ?_
  refine lv_istore_n (lv' := [(0, .int (((((((a0 - ((((a0).toUInt32 >>> (((1 : Int32)).toUInt32 &&& Int32.toUInt32 31)).toInt32) &&& 1431655765)) &&& 858993459) + (((((a0 - ((((a0).toUInt32 >>> (((1 : Int32)).toUInt32 &&& Int32.toUInt32 31)).toInt32) &&& 1431655765))).toUInt32 >>> (((2 : Int32)).toUInt32 &&& Int32.toUInt32 31)).toInt32) &&& 858993459)) + ((((((a0 - ((((a0).toUInt32 >>> (((1 : Int32)).toUInt32 &&& Int32.toUInt32 31)).toInt32) &&& 1431655765)) &&& 858993459) + (((((a0 - ((((a0).toUInt32 >>> (((1 : Int32)).toUInt32 &&& Int32.toUInt32 31)).toInt32) &&& 1431655765))).toUInt32 >>> (((2 : Int32)).toUInt32 &&& Int32.toUInt32 31)).toInt32) &&& 858993459))).toUInt32 >>> (((4 : Int32)).toUInt32 &&& Int32.toUInt32 31)).toInt32)) &&& 252645135) + ((((((((a0 - ((((a0).toUInt32 >>> (((1 : Int32)).toUInt32 &&& Int32.toUInt32 31)).toInt32) &&& 1431655765)) &&& 858993459) + (((((a0 - ((((a0).toUInt32 >>> (((1 : Int32)).toUInt32 &&& Int32.toUInt32 31)).toInt32) &&& 1431655765))).toUInt32 >>> (((2 : Int32)).toUInt32 &&& Int32.toUInt32 31)).toInt32) &&& 858993459)) + ((((((a0 - ((((a0).toUInt32 >>> (((1 : Int32)).toUInt32 &&& Int32.toUInt32 31)).toInt32) &&& 1431655765)) &&& 858993459) + (((((a0 - ((((a0).toUInt32 >>> (((1 : Int32)).toUInt32 &&& Int32.toUInt32 31)).toInt32) &&& 1431655765))).toUInt32 >>> (((2 : Int32)).toUInt32 &&& Int32.toUInt32 31)).toInt32) &&& 858993459))).toUInt32 >>> (((4 : Int32)).toUInt32 &&& Int32.toUInt32 31)).toInt32)) &&& 252645135)).toUInt32 >>> (((8 : Int32)).toUInt32 &&& Int32.toUInt32 31)).toInt32)) + (((((((((a0 - ((((a0).toUInt32 >>> (((1 : Int32)).toUInt32 &&& Int32.toUInt32 31)).toInt32) &&& 1431655765)) &&& 858993459) + (((((a0 - ((((a0).toUInt32 >>> (((1 : Int32)).toUInt32 &&& Int32.toUInt32 31)).toInt32) &&& 1431655765))).toUInt32 >>> (((2 : Int32)).toUInt32 &&& Int32.toUInt32 31)).toInt32) &&& 858993459)) + ((((((a0 - ((((a0).toUInt32 >>> (((1 : Int32)).toUInt32 &&& Int32.toUInt32 31)).toInt32) &&& 1431655765)) &&& 858993459) + (((((a0 - ((((a0).toUInt32 >>> (((1 : Int32)).toUInt32 &&& Int32.toUInt32 31)).toInt32) &&& 1431655765))).toUInt32 >>> (((2 : Int32)).toUInt32 &&& Int32.toUInt32 31)).toInt32) &&& 858993459))).toUInt32 >>> (((4 : Int32)).toUInt32 &&& Int32.toUInt32 31)).toInt32)) &&& 252645135) + ((((((((a0 - ((((a0).toUInt32 >>> (((1 : Int32)).toUInt32 &&& Int32.toUInt32 31)).toInt32) &&& 1431655765)) &&& 858993459) + (((((a0 - ((((a0).toUInt32 >>> (((1 : Int32)).toUInt32 &&& Int32.toUInt32 31)).toInt32) &&& 1431655765))).toUInt32 >>> (((2 : Int32)).toUInt32 &&& Int32.toUInt32 31)).toInt32) &&& 858993459)) + ((((((a0 - ((((a0).toUInt32 >>> (((1 : Int32)).toUInt32 &&& Int32.toUInt32 31)).toInt32) &&& 1431655765)) &&& 858993459) + (((((a0 - ((((a0).toUInt32 >>> (((1 : Int32)).toUInt32 &&& Int32.toUInt32 31)).toInt32) &&& 1431655765))).toUInt32 >>> (((2 : Int32)).toUInt32 &&& Int32.toUInt32 31)).toInt32) &&& 858993459))).toUInt32 >>> (((4 : Int32)).toUInt32 &&& Int32.toUInt32 31)).toInt32)) &&& 252645135)).toUInt32 >>> (((8 : Int32)).toUInt32 &&& Int32.toUInt32 31)).toInt32))).toUInt32 >>> (((16 : Int32)).toUInt32 &&& Int32.toUInt32 31)).toInt32)))]) hx hb dJ6_bitCount_0f7a4_47 rfl hl (by decide) rfl (fun ls hl => ?_)
  refine lv_iload_n hx hb dJ6_bitCount_0f7a4_48 rfl (lv_at hl 0 rfl) ?_
  refine lv_bipush (v := 63) hx hb dJ6_bitCount_0f7a4_49 (by decide) ?_
  refine lv_iand hx hb dJ6_bitCount_0f7a4_51 ?_
  exact q_retI X hH hr hlk hf (Nat.zero_le _) (Nat.zero_le _) dJ6_bitCount_0f7a4_52
-- J0_coder_7d493
def f_J0_coder_7d493 (adK : Nat → Nat) (S : PS) (a0 : Nat) (post : Int32 → PS → Prop) : Prop :=
  sK adK a0 fun k1 => (
  if (1 : Int32) = 0 then
    nZ .byte 1 (post 1 S)
  else
    nZ .byte 0 (post 0 S))
abbrev rm_J0_coder_7d493 : Room := { frames := 0, cells := 0, slots := 0, locals := 0 }
set_option maxHeartbeats 4000000 in
set_option maxRecDepth 100000 in
theorem c_J0_coder_7d493 (l : Launch) (D : va_G) (cy : Nat → ClassId) (G : p_GT) (hG : p_ok G) (hGC : ∀ (A : Nat → Prop) (U : State) (H : Heap), G A U H → gC A U H) (adK adV : Nat → Nat) (hGK : ∀ (A : Nat → Prop) (U : State) (H : Heap), G A U H → gK adK adV A U H) (S : PS) (a0 : Nat) (post : Int32 → PS → Prop) (sz : Nat) (hf : f_J0_coder_7d493 adK S a0 post) : p_Mi l D cy G S sz yJ0_coder_7d493 (Cond.code yJ0_coder_7d493 cJ0_coder_7d493 1 (some .byte) :: wG) rm_J0_coder_7d493 [.ref a0] 0 0 post := by
  refine q_start hG (Qc := fun A => va_Qi post (p_Post D cy A) A) mf_J0_coder_7d493 (Nat.le_of_ble_eq_true rfl) (own := RJ0) rfl ?_
  intro p e s m below meth c A X hr hlk hnm ls hl hH
  have hx := X.1.1
  have hb := X.1.2.1
  replace hl : lv_has ls 1 [(0, .ref a0)] := hl
  obtain ⟨H, hHe⟩ : ∃ H, H = s.heap := ⟨_, rfl⟩
  obtain ⟨locs, hlo⟩ : ∃ locs : List Loc, locs = [] := ⟨_, rfl⟩
  rw [← hHe, ← hlo] at hH
  show W p l e rm_J0_coder_7d493 s m [.ref a0].toArray below meth c s.heap [] 0 0 _ _
  rw [← hHe, ← hlo]
  obtain ⟨k1, hk1, hek1, hf⟩ := hf
  replace hl : lv_has ls 1 [(0, .ref (adK k1))] := by rw [← hek1]; exact hl
  refine q_getsC X hH (hGC _ _ _ X.2.2.2.2) tw_1172 dJ0_coder_7d493_0 ?_
  refine lv_if_eq (tgt := 13) hx hb dJ0_coder_7d493_3 (by decide) (fun c2 => ?_) (fun c2 => ?_)
  · have hf := (if_pos c2).mp hf
    refine lv_iconst (v := 1) hx hb dJ0_coder_7d493_13 (by decide) ?_
    exact q_retZ X hH hr hlk hf (Nat.zero_le _) (Nat.zero_le _) dJ0_coder_7d493_14
  · have hf := (if_neg c2).mp hf
    refine lv_aload_n hx hb dJ0_coder_7d493_6 rfl (lv_at hl 0 rfl) ?_
    refine q_getK X hH ((hGK _ _ _ X.2.2.2.2).1.1 k1 hk1).2.1 tw_1284 dJ0_coder_7d493_7 ?_
    refine lv_goto (tgt := 14) hx hb dJ0_coder_7d493_10 (by decide) ?_
    exact q_retZ X hH hr hlk hf (Nat.zero_le _) (Nat.zero_le _) dJ0_coder_7d493_14
-- J0_isLatin1_aae02
def f_J0_isLatin1_aae02 (adK : Nat → Nat) (S : PS) (a0 : Nat) (post : Int32 → PS → Prop) : Prop :=
  sK adK a0 fun k1 => (
  if (1 : Int32) = 0 then
    nZ .boolean 0 (post 0 S)
  else
    if (0 : Int32) = 0 then
      nZ .boolean 1 (post 1 S)
    else
      nZ .boolean 0 (post 0 S))
abbrev rm_J0_isLatin1_aae02 : Room := { frames := 0, cells := 0, slots := 0, locals := 0 }
set_option maxHeartbeats 4000000 in
set_option maxRecDepth 100000 in
theorem c_J0_isLatin1_aae02 (l : Launch) (D : va_G) (cy : Nat → ClassId) (G : p_GT) (hG : p_ok G) (hGC : ∀ (A : Nat → Prop) (U : State) (H : Heap), G A U H → gC A U H) (adK adV : Nat → Nat) (hGK : ∀ (A : Nat → Prop) (U : State) (H : Heap), G A U H → gK adK adV A U H) (S : PS) (a0 : Nat) (post : Int32 → PS → Prop) (sz : Nat) (hf : f_J0_isLatin1_aae02 adK S a0 post) : p_Mi l D cy G S sz yJ0_isLatin1_aae02 (Cond.code yJ0_isLatin1_aae02 cJ0_isLatin1_aae02 1 (some .boolean) :: wG) rm_J0_isLatin1_aae02 [.ref a0] 0 0 post := by
  refine q_start hG (Qc := fun A => va_Qi post (p_Post D cy A) A) mf_J0_isLatin1_aae02 (Nat.le_of_ble_eq_true rfl) (own := RJ0) rfl ?_
  intro p e s m below meth c A X hr hlk hnm ls hl hH
  have hx := X.1.1
  have hb := X.1.2.1
  replace hl : lv_has ls 1 [(0, .ref a0)] := hl
  obtain ⟨H, hHe⟩ : ∃ H, H = s.heap := ⟨_, rfl⟩
  obtain ⟨locs, hlo⟩ : ∃ locs : List Loc, locs = [] := ⟨_, rfl⟩
  rw [← hHe, ← hlo] at hH
  show W p l e rm_J0_isLatin1_aae02 s m [.ref a0].toArray below meth c s.heap [] 0 0 _ _
  rw [← hHe, ← hlo]
  obtain ⟨k1, hk1, hek1, hf⟩ := hf
  replace hl : lv_has ls 1 [(0, .ref (adK k1))] := by rw [← hek1]; exact hl
  refine q_getsC X hH (hGC _ _ _ X.2.2.2.2) tw_1172 dJ0_isLatin1_aae02_0 ?_
  refine lv_if_eq (tgt := 17) hx hb dJ0_isLatin1_aae02_3 (by decide) (fun c2 => ?_) (fun c2 => ?_)
  · have hf := (if_pos c2).mp hf
    refine lv_iconst (v := 0) hx hb dJ0_isLatin1_aae02_17 (by decide) ?_
    exact q_retZ X hH hr hlk hf (Nat.zero_le _) (Nat.zero_le _) dJ0_isLatin1_aae02_18
  · have hf := (if_neg c2).mp hf
    refine lv_aload_n hx hb dJ0_isLatin1_aae02_6 rfl (lv_at hl 0 rfl) ?_
    refine q_getK X hH ((hGK _ _ _ X.2.2.2.2).1.1 k1 hk1).2.1 tw_1284 dJ0_isLatin1_aae02_7 ?_
    refine lv_if_ne (tgt := 17) hx hb dJ0_isLatin1_aae02_10 (by decide) (fun c3 => ?_) (fun c3 => ?_)
    · have hf := (if_neg c3).mp hf
      refine lv_iconst (v := 0) hx hb dJ0_isLatin1_aae02_17 (by decide) ?_
      exact q_retZ X hH hr hlk hf (Nat.zero_le _) (Nat.zero_le _) dJ0_isLatin1_aae02_18
    · have hf := (if_pos c3).mp hf
      refine lv_iconst (v := 1) hx hb dJ0_isLatin1_aae02_13 (by decide) ?_
      refine lv_goto (tgt := 18) hx hb dJ0_isLatin1_aae02_14 (by decide) ?_
      exact q_retZ X hH hr hlk hf (Nat.zero_le _) (Nat.zero_le _) dJ0_isLatin1_aae02_18
-- J4_init_da8c8
def f_J4_init_da8c8 (S : PS) (a0 : Nat) (bc bs : Nat) (post : PS → Prop) : Prop :=
  ∃ mc2 ms2 : Nat, mc2 ≤ bc ∧ ms2 ≤ bs ∧ (f_J5_init_d00df S a0 16 mc2 ms2 fun S1 => (
  post S1))
abbrev rm_J4_init_da8c8 (mc ms : Nat) : Room := { frames := 2, cells := mc, slots := ms, locals := 41 }
set_option maxHeartbeats 4000000 in
set_option maxRecDepth 100000 in
theorem c_J4_init_da8c8 (l : Launch) (D : va_G) (cy : Nat → ClassId) (G : p_GT) (hG : p_ok G) (hGC : ∀ (A : Nat → Prop) (U : State) (H : Heap), G A U H → gC A U H) (S : PS) (a0 : Nat) (mc ms : Nat) (post : PS → Prop) (sz : Nat) (hf : f_J4_init_da8c8 S a0 mc ms post) : p_Mv l D cy G S sz yJ4_init_da8c8 (Cond.code yJ4_init_da8c8 cJ4_init_da8c8 1 none :: wG) (rm_J4_init_da8c8 mc ms) [.ref a0] mc ms post := by
  refine q_start hG (Qc := fun A => va_Qv post (p_Post D cy A) A) mf_J4_init_da8c8 (Nat.le_of_ble_eq_true rfl) (own := RJ4) rfl ?_
  intro p e s m below meth c A X hr hlk hnm ls hl hH
  have hx := X.1.1
  have hb := X.1.2.1
  replace hl : lv_has ls 1 [(0, .ref a0)] := hl
  have main : ∀ (H : Heap) (locs : List Loc) (ls : Array Slot) (cells slots bc bs : Nat), f_J4_init_da8c8 S a0 bc bs post → p_H D cy S A s H locs → lv_has ls 1 [(0, .ref a0)] → cells + bc ≤ mc ∧ slots + bs ≤ ms → W p l e (rm_J4_init_da8c8 mc ms) s m [.ref a0].toArray below meth c H locs cells slots (MQ below (va_Qv post (p_Post D cy A) A) [.ref a0].toArray s mc ms A) (F0 m 0 ls []) := by
    intro H locs ls cells slots bc bs hf hH hl hB
    refine lv_aload_n hx hb dJ4_init_da8c8_0 rfl (lv_at hl 0 rfl) ?_
    refine lv_bipush (v := 16) hx hb dJ4_init_da8c8_1 (by decide) ?_
    obtain ⟨mc2, ms2, hm1, hs1, hf⟩ := hf
    refine q_backVB X hH hB hm1 hs1 (q_runI [.int 16] [] X hH hl (c_J5_init_d00df l D cy G X.2.2.2.1 hGC S a0 16 mc2 ms2 _ _ hf) mf_J5_init_d00df tw_183 tw_182 ⟨Nat.le_of_ble_eq_true rfl, Nat.le_of_ble_eq_true rfl⟩ rfl (Nat.le_of_ble_eq_true rfl) dJ4_init_da8c8_3 ⟨Nat.le_trans (Nat.add_le_add_left hm1 _) hB.1, Nat.le_trans (Nat.add_le_add_left hs1 _) hB.2⟩) (fun S1 hf H locs cells slots hH hB => ?_)
    exact q_retV X hH hr hlk hf (Nat.le_trans (Nat.le_add_right _ _) hB.1) (Nat.le_trans (Nat.le_add_right _ _) hB.2) dJ4_init_da8c8_6
  exact main s.heap [] ls 0 0 mc ms hf hH hl ⟨by omega, by omega⟩
-- J4_length_8abf5
def f_J4_length_8abf5 (S : PS) (a0 : Nat) (post : Int32 → PS → Prop) : Prop :=
  isO S a0 1 (
  f_J5_length_8abf5 S a0 fun v2 S1 => (
  post v2 S1))
abbrev rm_J4_length_8abf5 : Room := { frames := 1, cells := 0, slots := 0, locals := 20 }
set_option maxHeartbeats 4000000 in
set_option maxRecDepth 100000 in
theorem c_J4_length_8abf5 (l : Launch) (D : va_G) (cy : Nat → ClassId) (G : p_GT) (hG : p_ok G) (S : PS) (a0 : Nat) (post : Int32 → PS → Prop) (sz : Nat) (hf : f_J4_length_8abf5 S a0 post) : p_Mi l D cy G S sz yJ4_length_8abf5 (Cond.code yJ4_length_8abf5 cJ4_length_8abf5 1 (some .int) :: wG) rm_J4_length_8abf5 [.ref a0] 0 0 post := by
  refine q_start hG (Qc := fun A => va_Qi post (p_Post D cy A) A) mf_J4_length_8abf5 (Nat.le_of_ble_eq_true rfl) (own := RJ4) rfl ?_
  intro p e s m below meth c A X hr hlk hnm ls hl hH
  have hx := X.1.1
  have hb := X.1.2.1
  replace hl : lv_has ls 1 [(0, .ref a0)] := hl
  obtain ⟨H, hHe⟩ : ∃ H, H = s.heap := ⟨_, rfl⟩
  obtain ⟨locs, hlo⟩ : ∃ locs : List Loc, locs = [] := ⟨_, rfl⟩
  rw [← hHe, ← hlo] at hH
  show W p l e rm_J4_length_8abf5 s m [.ref a0].toArray below meth c s.heap [] 0 0 _ _
  rw [← hHe, ← hlo]
  refine lv_aload_n hx hb dJ4_length_8abf5_0 rfl (lv_at hl 0 rfl) ?_
  obtain ⟨hb1, hb2, hf⟩ := hf
  refine q_backI0 X hH (q_runSU [] [] X hH hl (c_J5_length_8abf5 l D cy G X.2.2.2.1 S a0 _ _ hf) mf_J5_length_8abf5 tw_732 tw_1303 tw_208 (by decide +kernel) tw_731 ⟨Nat.le_of_ble_eq_true rfl, Nat.le_of_ble_eq_true rfl⟩ hb1 hb2 rfl (Nat.le_of_ble_eq_true rfl) dJ4_length_8abf5_1 ⟨Nat.le_of_ble_eq_true rfl, Nat.le_of_ble_eq_true rfl⟩) (fun v2 S1 hf H locs hH => ?_)
  exact q_retI X hH hr hlk hf (Nat.zero_le _) (Nat.zero_le _) dJ4_length_8abf5_4
-- J1_canEncode_fc78d
def f_J1_canEncode_fc78d (S : PS) (a0 : Int32) (post : Int32 → PS → Prop) : Prop :=
  if 255 < a0 then
    nZ .boolean 0 (post 0 S)
  else
    nZ .boolean 1 (post 1 S)
abbrev rm_J1_canEncode_fc78d : Room := { frames := 0, cells := 0, slots := 0, locals := 0 }
set_option maxHeartbeats 4000000 in
set_option maxRecDepth 100000 in
theorem c_J1_canEncode_fc78d (l : Launch) (D : va_G) (cy : Nat → ClassId) (G : p_GT) (hG : p_ok G) (S : PS) (a0 : Int32) (post : Int32 → PS → Prop) (sz : Nat) (hf : f_J1_canEncode_fc78d S a0 post) : p_Mi l D cy G S sz yJ1_canEncode_fc78d (Cond.code yJ1_canEncode_fc78d cJ1_canEncode_fc78d 1 (some .boolean) :: wG) rm_J1_canEncode_fc78d [.int a0] 0 0 post := by
  refine q_start hG (Qc := fun A => va_Qi post (p_Post D cy A) A) mf_J1_canEncode_fc78d (Nat.le_of_ble_eq_true rfl) (own := RJ1) rfl ?_
  intro p e s m below meth c A X hr hlk hnm ls hl hH
  have hx := X.1.1
  have hb := X.1.2.1
  replace hl : lv_has ls 1 [(0, .int a0)] := hl
  obtain ⟨H, hHe⟩ : ∃ H, H = s.heap := ⟨_, rfl⟩
  obtain ⟨locs, hlo⟩ : ∃ locs : List Loc, locs = [] := ⟨_, rfl⟩
  rw [← hHe, ← hlo] at hH
  show W p l e rm_J1_canEncode_fc78d s m [.int a0].toArray below meth c s.heap [] 0 0 _ _
  rw [← hHe, ← hlo]
  refine lv_iload_n hx hb dJ1_canEncode_fc78d_0 rfl (lv_at hl 0 rfl) ?_
  refine lv_sipush (v := 255) hx hb dJ1_canEncode_fc78d_1 (by decide) ?_
  refine lv_icmp_gt (tgt := 11) hx hb dJ1_canEncode_fc78d_4 (by decide) (fun c1 => ?_) (fun c1 => ?_)
  · have hf := (if_pos c1).mp hf
    refine lv_iconst (v := 0) hx hb dJ1_canEncode_fc78d_11 (by decide) ?_
    exact q_retZ X hH hr hlk hf (Nat.zero_le _) (Nat.zero_le _) dJ1_canEncode_fc78d_12
  · have hf := (if_neg c1).mp hf
    refine lv_iconst (v := 1) hx hb dJ1_canEncode_fc78d_7 (by decide) ?_
    refine lv_goto (tgt := 12) hx hb dJ1_canEncode_fc78d_8 (by decide) ?_
    exact q_retZ X hH hr hlk hf (Nat.zero_le _) (Nat.zero_le _) dJ1_canEncode_fc78d_12
-- J7_copyOf_9075b
def f_J7_copyOf_9075b (S : PS) (a0 : Nat) (a1 : Int32) (bc bs : Nat) (post : Nat → PS → Prop) : Prop :=
  lE S a0 fun v1 => (
  if a1 = v1 then
    False
  else
    nA S 1 a1 bc bs fun q3 S4 bc5 bs6 => (
    lE S4 a0 fun v7 => (
    cpB S4 a0 0 q3 0 (if a1 < v7 then a1 else v7) fun S8 => (
    post q3 S8))))
abbrev rm_J7_copyOf_9075b (mc ms : Nat) : Room := { frames := 1, cells := mc, slots := ms, locals := 60 }
set_option maxHeartbeats 4000000 in
set_option maxRecDepth 100000 in
theorem c_J7_copyOf_9075b (l : Launch) (D : va_G) (cy : Nat → ClassId) (G : p_GT) (hG : p_ok G) (S : PS) (a0 : Nat) (a1 : Int32) (mc ms : Nat) (post : Nat → PS → Prop) (sz : Nat) (hf : f_J7_copyOf_9075b S a0 a1 mc ms post) : p_Mr l D cy G S sz yJ7_copyOf_9075b (Cond.code yJ7_copyOf_9075b cJ7_copyOf_9075b 3 (some (.array .byte)) :: wG) (rm_J7_copyOf_9075b mc ms) [.ref a0, .int a1] mc ms post := by
  refine q_start hG (Qc := fun A => p_Qr D cy post A) mf_J7_copyOf_9075b (Nat.le_of_ble_eq_true rfl) (own := RJ7) rfl ?_
  intro p e s m below meth c A X hr hlk hnm ls hl hH
  have hx := X.1.1
  have hb := X.1.2.1
  replace hl : lv_has ls 3 [(0, .ref a0), (1, .int a1)] := hl
  have main : ∀ (H : Heap) (locs : List Loc) (ls : Array Slot) (cells slots bc bs : Nat), f_J7_copyOf_9075b S a0 a1 bc bs post → p_H D cy S A s H locs → lv_has ls 3 [(0, .ref a0), (1, .int a1)] → cells + bc ≤ mc ∧ slots + bs ≤ ms → W p l e (rm_J7_copyOf_9075b mc ms) s m [.ref a0, .int a1].toArray below meth c H locs cells slots (MQ below (p_Qr D cy post A) [.ref a0, .int a1].toArray s mc ms A) (F0 m 0 ls []) := by
    intro H locs ls cells slots bc bs hf hH hl hB
    refine lv_iload_n hx hb dJ7_copyOf_9075b_0 rfl (lv_at hl 1 rfl) ?_
    refine lv_aload_n hx hb dJ7_copyOf_9075b_1 rfl (lv_at hl 0 rfl) ?_
    refine q_alen X hH hf dJ7_copyOf_9075b_2 (fun v1 hf => ?_)
    refine lv_icmp_ne (tgt := 14) hx hb dJ7_copyOf_9075b_3 (by decide) (fun c2 => ?_) (fun c2 => ?_)
    · have hf := (if_neg c2).mp hf
      refine lv_iload_n hx hb dJ7_copyOf_9075b_14 rfl (lv_at hl 1 rfl) ?_
      refine q_newa (t := 1) (atype := .byte) (ty := .byte) X hH hB hf tw_209 rfl rfl (fun C h => by cases h) (fun N cA => rfl) (by decide) dJ7_copyOf_9075b_15 (fun q3 S4 bc5 bs6 hf H locs cells slots hH hB => ?_)
      refine lv_astore_n (lv' := [(2, .ref q3), (0, .ref a0), (1, .int a1)]) hx hb dJ7_copyOf_9075b_17 rfl hl (by decide) rfl (fun ls hl => ?_)
      refine lv_aload_n hx hb dJ7_copyOf_9075b_18 rfl (lv_at hl 1 rfl) ?_
      refine lv_iconst (v := 0) hx hb dJ7_copyOf_9075b_19 (by decide) ?_
      refine lv_aload_n hx hb dJ7_copyOf_9075b_20 rfl (lv_at hl 0 rfl) ?_
      refine lv_iconst (v := 0) hx hb dJ7_copyOf_9075b_21 (by decide) ?_
      refine lv_aload_n hx hb dJ7_copyOf_9075b_22 rfl (lv_at hl 1 rfl) ?_
      refine q_alen X hH hf dJ7_copyOf_9075b_23 (fun v7 hf => ?_)
      refine lv_iload_n hx hb dJ7_copyOf_9075b_24 rfl (lv_at hl 2 rfl) ?_
      refine q_mmin X hl tw_700 tw_496 tw_47 tw_497 ⟨Nat.le_of_ble_eq_true rfl, Nat.le_of_ble_eq_true rfl⟩ (Nat.le_of_ble_eq_true rfl) (Nat.le_trans (Nat.le_add_right _ _) hB.1) (Nat.le_trans (Nat.le_add_right _ _) hB.2) dJ7_copyOf_9075b_25 ?_
      refine q_copyb X hH hl hf tw_701 tw_703 tw_702 tw_46 ⟨Nat.le_of_ble_eq_true rfl, Nat.le_of_ble_eq_true rfl⟩ (Nat.le_of_ble_eq_true rfl) dJ7_copyOf_9075b_28 (fun S8 hf H locs hH => ?_)
      refine lv_aload_n hx hb dJ7_copyOf_9075b_31 rfl (lv_at hl 0 rfl) ?_
      exact q_retR X hH hr (Or.inr ⟨_, rfl⟩) hlk hf (Nat.le_trans (Nat.le_add_right _ _) hB.1) (Nat.le_trans (Nat.le_add_right _ _) hB.2) dJ7_copyOf_9075b_32
    · have hf := (if_pos c2).mp hf
      exact hf.elim
  exact main s.heap [] ls 0 0 mc ms hf hH hl ⟨by omega, by omega⟩
-- J7_checkLength_df160
def f_J7_checkLength_df160 (S : PS) (a0 : Int32) (a1 : Int32) (post : PS → Prop) : Prop :=
  if a0 ≤ a1 then
    post S
  else
    False
abbrev rm_J7_checkLength_df160 : Room := { frames := 0, cells := 0, slots := 0, locals := 0 }
set_option maxHeartbeats 4000000 in
set_option maxRecDepth 100000 in
theorem c_J7_checkLength_df160 (l : Launch) (D : va_G) (cy : Nat → ClassId) (G : p_GT) (hG : p_ok G) (S : PS) (a0 : Int32) (a1 : Int32) (post : PS → Prop) (sz : Nat) (hf : f_J7_checkLength_df160 S a0 a1 post) : p_Mv l D cy G S sz yJ7_checkLength_df160 (Cond.code yJ7_checkLength_df160 cJ7_checkLength_df160 2 none :: wG) rm_J7_checkLength_df160 [.int a0, .int a1] 0 0 post := by
  refine q_start hG (Qc := fun A => va_Qv post (p_Post D cy A) A) mf_J7_checkLength_df160 (Nat.le_of_ble_eq_true rfl) (own := RJ7) rfl ?_
  intro p e s m below meth c A X hr hlk hnm ls hl hH
  have hx := X.1.1
  have hb := X.1.2.1
  replace hl : lv_has ls 2 [(0, .int a0), (1, .int a1)] := hl
  obtain ⟨H, hHe⟩ : ∃ H, H = s.heap := ⟨_, rfl⟩
  obtain ⟨locs, hlo⟩ : ∃ locs : List Loc, locs = [] := ⟨_, rfl⟩
  rw [← hHe, ← hlo] at hH
  show W p l e rm_J7_checkLength_df160 s m [.int a0, .int a1].toArray below meth c s.heap [] 0 0 _ _
  rw [← hHe, ← hlo]
  refine lv_iload_n hx hb dJ7_checkLength_df160_0 rfl (lv_at hl 1 rfl) ?_
  refine lv_iload_n hx hb dJ7_checkLength_df160_1 rfl (lv_at hl 0 rfl) ?_
  refine lv_icmp_ge (tgt := 37) hx hb dJ7_checkLength_df160_2 (by decide) (fun c1 => ?_) (fun c1 => ?_)
  · have hf := (if_pos c1).mp hf
    exact q_retV X hH hr hlk hf (Nat.zero_le _) (Nat.zero_le _) dJ7_checkLength_df160_37
  · have hf := (if_neg c1).mp hf
    exact hf.elim
-- J7_copyOfRangeByte_39247
def f_J7_copyOfRangeByte_39247 (S : PS) (a0 : Nat) (a1 : Int32) (a2 : Int32) (bc bs : Nat) (post : Nat → PS → Prop) : Prop :=
  f_J7_checkLength_df160 S a1 a2 fun S1 => (
  nA S1 1 (a2 - a1) bc bs fun q3 S4 bc5 bs6 => (
  lE S4 a0 fun v7 => (
  cpB S4 a0 a1 q3 0 (if (a2 - a1) < (v7 - a1) then (a2 - a1) else (v7 - a1)) fun S8 => (
  post q3 S8))))
abbrev rm_J7_copyOfRangeByte_39247 (mc ms : Nat) : Room := { frames := 1, cells := mc, slots := ms, locals := 60 }
set_option maxHeartbeats 4000000 in
set_option maxRecDepth 100000 in
theorem c_J7_copyOfRangeByte_39247 (l : Launch) (D : va_G) (cy : Nat → ClassId) (G : p_GT) (hG : p_ok G) (S : PS) (a0 : Nat) (a1 : Int32) (a2 : Int32) (mc ms : Nat) (post : Nat → PS → Prop) (sz : Nat) (hf : f_J7_copyOfRangeByte_39247 S a0 a1 a2 mc ms post) : p_Mr l D cy G S sz yJ7_copyOfRangeByte_39247 (Cond.code yJ7_copyOfRangeByte_39247 cJ7_copyOfRangeByte_39247 5 (some (.array .byte)) :: wG) (rm_J7_copyOfRangeByte_39247 mc ms) [.ref a0, .int a1, .int a2] mc ms post := by
  refine q_start hG (Qc := fun A => p_Qr D cy post A) mf_J7_copyOfRangeByte_39247 (Nat.le_of_ble_eq_true rfl) (own := RJ7) rfl ?_
  intro p e s m below meth c A X hr hlk hnm ls hl hH
  have hx := X.1.1
  have hb := X.1.2.1
  replace hl : lv_has ls 5 [(0, .ref a0), (1, .int a1), (2, .int a2)] := hl
  have main : ∀ (H : Heap) (locs : List Loc) (ls : Array Slot) (cells slots bc bs : Nat), f_J7_copyOfRangeByte_39247 S a0 a1 a2 bc bs post → p_H D cy S A s H locs → lv_has ls 5 [(0, .ref a0), (1, .int a1), (2, .int a2)] → cells + bc ≤ mc ∧ slots + bs ≤ ms → W p l e (rm_J7_copyOfRangeByte_39247 mc ms) s m [.ref a0, .int a1, .int a2].toArray below meth c H locs cells slots (MQ below (p_Qr D cy post A) [.ref a0, .int a1, .int a2].toArray s mc ms A) (F0 m 0 ls []) := by
    intro H locs ls cells slots bc bs hf hH hl hB
    refine lv_iload_n hx hb dJ7_copyOfRangeByte_39247_0 rfl (lv_at hl 1 rfl) ?_
    refine lv_iload_n hx hb dJ7_copyOfRangeByte_39247_1 rfl (lv_at hl 2 rfl) ?_
    refine q_backV0 X hH (q_runS [.int a1, .int a2] [] X hH hl (c_J7_checkLength_df160 l D cy G X.2.2.2.1 S a1 a2 _ _ hf) mf_J7_checkLength_df160 tw_1271 tw_1270 ⟨Nat.le_of_ble_eq_true rfl, Nat.le_of_ble_eq_true rfl⟩ rfl (Nat.le_of_ble_eq_true rfl) dJ7_copyOfRangeByte_39247_2 ⟨Nat.le_trans (Nat.le_add_right _ _) hB.1, Nat.le_trans (Nat.le_add_right _ _) hB.2⟩) (fun S1 hf H locs hH => ?_)
    refine lv_iload_n hx hb dJ7_copyOfRangeByte_39247_5 rfl (lv_at hl 2 rfl) ?_
    refine lv_iload_n hx hb dJ7_copyOfRangeByte_39247_6 rfl (lv_at hl 1 rfl) ?_
    refine lv_isub hx hb dJ7_copyOfRangeByte_39247_7 ?_
    refine lv_istore_n (lv' := [(3, .int (a2 - a1)), (0, .ref a0), (1, .int a1), (2, .int a2)]) hx hb dJ7_copyOfRangeByte_39247_8 rfl hl (by decide) rfl (fun ls hl => ?_)
    refine lv_iload_n hx hb dJ7_copyOfRangeByte_39247_9 rfl (lv_at hl 0 rfl) ?_
    refine q_newa (t := 1) (atype := .byte) (ty := .byte) X hH hB hf tw_209 rfl rfl (fun C h => by cases h) (fun N cA => rfl) (by decide) dJ7_copyOfRangeByte_39247_10 (fun q3 S4 bc5 bs6 hf H locs cells slots hH hB => ?_)
    refine lv_astore (lv' := [(4, .ref q3), (3, .int (a2 - a1)), (0, .ref a0), (1, .int a1), (2, .int a2)]) hx hb dJ7_copyOfRangeByte_39247_12 hl (by decide) rfl (fun ls hl => ?_)
    refine lv_aload_n hx hb dJ7_copyOfRangeByte_39247_14 rfl (lv_at hl 2 rfl) ?_
    refine lv_iload_n hx hb dJ7_copyOfRangeByte_39247_15 rfl (lv_at hl 3 rfl) ?_
    refine lv_aload hx hb dJ7_copyOfRangeByte_39247_16 (lv_at hl 0 rfl) ?_
    refine lv_iconst (v := 0) hx hb dJ7_copyOfRangeByte_39247_18 (by decide) ?_
    refine lv_aload_n hx hb dJ7_copyOfRangeByte_39247_19 rfl (lv_at hl 2 rfl) ?_
    refine q_alen X hH hf dJ7_copyOfRangeByte_39247_20 (fun v7 hf => ?_)
    refine lv_iload_n hx hb dJ7_copyOfRangeByte_39247_21 rfl (lv_at hl 3 rfl) ?_
    refine lv_isub hx hb dJ7_copyOfRangeByte_39247_22 ?_
    refine lv_iload_n hx hb dJ7_copyOfRangeByte_39247_23 rfl (lv_at hl 1 rfl) ?_
    refine q_mmin X hl tw_700 tw_496 tw_47 tw_497 ⟨Nat.le_of_ble_eq_true rfl, Nat.le_of_ble_eq_true rfl⟩ (Nat.le_of_ble_eq_true rfl) (Nat.le_trans (Nat.le_add_right _ _) hB.1) (Nat.le_trans (Nat.le_add_right _ _) hB.2) dJ7_copyOfRangeByte_39247_24 ?_
    refine q_copyb X hH hl hf tw_701 tw_703 tw_702 tw_46 ⟨Nat.le_of_ble_eq_true rfl, Nat.le_of_ble_eq_true rfl⟩ (Nat.le_of_ble_eq_true rfl) dJ7_copyOfRangeByte_39247_27 (fun S8 hf H locs hH => ?_)
    refine lv_aload hx hb dJ7_copyOfRangeByte_39247_30 (lv_at hl 0 rfl) ?_
    exact q_retR X hH hr (Or.inr ⟨_, rfl⟩) hlk hf (Nat.le_trans (Nat.le_add_right _ _) hB.1) (Nat.le_trans (Nat.le_add_right _ _) hB.2) dJ7_copyOfRangeByte_39247_32
  exact main s.heap [] ls 0 0 mc ms hf hH hl ⟨by omega, by omega⟩
-- J8_newLength_cabcc
def f_J8_newLength_cabcc_J21 (post : Int32 → PS → Prop) (S : PS) (l0 : Int32) : Prop :=
  False
def f_J8_newLength_cabcc (S : PS) (a0 : Int32) (a1 : Int32) (a2 : Int32) (post : Int32 → PS → Prop) : Prop :=
  if (a0 + (if a1 < a2 then a2 else a1)) ≤ (0 : Int32) then
    f_J8_newLength_cabcc_J21 post S a0
  else
    if 2147483639 < (a0 + (if a1 < a2 then a2 else a1)) then
      f_J8_newLength_cabcc_J21 post S a0
    else
      post (a0 + (if a1 < a2 then a2 else a1)) S
abbrev rm_J8_newLength_cabcc : Room := { frames := 1, cells := 0, slots := 0, locals := 21 }
set_option maxHeartbeats 4000000 in
set_option maxRecDepth 100000 in
theorem c_J8_newLength_cabcc (l : Launch) (D : va_G) (cy : Nat → ClassId) (G : p_GT) (hG : p_ok G) (S : PS) (a0 : Int32) (a1 : Int32) (a2 : Int32) (post : Int32 → PS → Prop) (sz : Nat) (hf : f_J8_newLength_cabcc S a0 a1 a2 post) : p_Mi l D cy G S sz yJ8_newLength_cabcc (Cond.code yJ8_newLength_cabcc cJ8_newLength_cabcc 4 (some .int) :: wG) rm_J8_newLength_cabcc [.int a0, .int a1, .int a2] 0 0 post := by
  refine q_start hG (Qc := fun A => va_Qi post (p_Post D cy A) A) mf_J8_newLength_cabcc (Nat.le_of_ble_eq_true rfl) (own := RJ8) rfl ?_
  intro p e s m below meth c A X hr hlk hnm ls hl hH
  have hx := X.1.1
  have hb := X.1.2.1
  replace hl : lv_has ls 4 [(0, .int a0), (1, .int a1), (2, .int a2)] := hl
  obtain ⟨H, hHe⟩ : ∃ H, H = s.heap := ⟨_, rfl⟩
  obtain ⟨locs, hlo⟩ : ∃ locs : List Loc, locs = [] := ⟨_, rfl⟩
  rw [← hHe, ← hlo] at hH
  show W p l e rm_J8_newLength_cabcc s m [.int a0, .int a1, .int a2].toArray below meth c s.heap [] 0 0 _ _
  rw [← hHe, ← hlo]
  have hJ21 : ∀ (S : PS) (l0 : Int32), f_J8_newLength_cabcc_J21 post S l0 → ∀ (H : Heap) (locs : List Loc) (ls : Array Slot), p_H D cy S A s H locs → lv_has ls 4 [(0, .int l0)] → W p l e rm_J8_newLength_cabcc s m [.int a0, .int a1, .int a2].toArray below meth c H locs 0 0 (MQ below (va_Qi post (p_Post D cy A) A) [.int a0, .int a1, .int a2].toArray s 0 0 A) (F0 m 21 ls []) := by
    intro S l0 hf H locs ls hH hl
    exact hf.elim
  refine lv_iload_n hx hb dJ8_newLength_cabcc_0 rfl (lv_at hl 0 rfl) ?_
  refine lv_iload_n hx hb dJ8_newLength_cabcc_1 rfl (lv_at hl 1 rfl) ?_
  refine lv_iload_n hx hb dJ8_newLength_cabcc_2 rfl (lv_at hl 2 rfl) ?_
  refine q_mmax X hl tw_684 tw_499 tw_47 tw_500 ⟨Nat.le_of_ble_eq_true rfl, Nat.le_of_ble_eq_true rfl⟩ (Nat.le_of_ble_eq_true rfl) (Nat.zero_le _) (Nat.zero_le _) dJ8_newLength_cabcc_3 ?_
  refine lv_iadd hx hb dJ8_newLength_cabcc_6 ?_
  refine lv_istore_n (lv' := [(3, .int (a0 + (if a1 < a2 then a2 else a1))), (0, .int a0), (1, .int a1), (2, .int a2)]) hx hb dJ8_newLength_cabcc_7 rfl hl (by decide) rfl (fun ls hl => ?_)
  refine lv_iconst (v := 0) hx hb dJ8_newLength_cabcc_8 (by decide) ?_
  refine lv_iload_n hx hb dJ8_newLength_cabcc_9 rfl (lv_at hl 0 rfl) ?_
  refine lv_icmp_ge (tgt := 21) hx hb dJ8_newLength_cabcc_10 (by decide) (fun c1 => ?_) (fun c1 => ?_)
  · have hf := (if_pos c1).mp hf
    exact hJ21 S a0 hf H locs ls hH (lv_sub hl [1] rfl)
  · have hf := (if_neg c1).mp hf
    refine lv_iload_n hx hb dJ8_newLength_cabcc_13 rfl (lv_at hl 0 rfl) ?_
    refine lv_ldc (v := 2147483639) hx hb X.1.2.2.2.1 (X.1.2.2.2.2 _ tw_685) dJ8_newLength_cabcc_14 ?_
    refine lv_icmp_gt (tgt := 21) hx hb dJ8_newLength_cabcc_16 (by decide) (fun c2 => ?_) (fun c2 => ?_)
    · have hf := (if_pos c2).mp hf
      exact hJ21 S a0 hf H locs ls hH (lv_sub hl [1] rfl)
    · have hf := (if_neg c2).mp hf
      refine lv_iload_n hx hb dJ8_newLength_cabcc_19 rfl (lv_at hl 0 rfl) ?_
      exact q_retI X hH hr hlk hf (Nat.zero_le _) (Nat.zero_le _) dJ8_newLength_cabcc_20
-- J3_checkIndex_8e157
def f_J3_checkIndex_8e157_J9 (post : Int32 → PS → Prop) (S : PS) (l2 : Option Nat) : Prop :=
  False
def f_J3_checkIndex_8e157 (S : PS) (a0 : Int32) (a1 : Int32) (a2 : Option Nat) (post : Int32 → PS → Prop) : Prop :=
  if a0 < 0 then
    f_J3_checkIndex_8e157_J9 post S a2
  else
    if a0 < a1 then
      post a0 S
    else
      f_J3_checkIndex_8e157_J9 post S a2
abbrev rm_J3_checkIndex_8e157 : Room := { frames := 0, cells := 0, slots := 0, locals := 0 }
set_option maxHeartbeats 4000000 in
set_option maxRecDepth 100000 in
theorem c_J3_checkIndex_8e157 (l : Launch) (D : va_G) (cy : Nat → ClassId) (G : p_GT) (hG : p_ok G) (S : PS) (a0 : Int32) (a1 : Int32) (a2 : Option Nat) (post : Int32 → PS → Prop) (sz : Nat) (hf : f_J3_checkIndex_8e157 S a0 a1 a2 post) : p_Mi l D cy G S sz yJ3_checkIndex_8e157 (Cond.code yJ3_checkIndex_8e157 cJ3_checkIndex_8e157 3 (some .int) :: wG) rm_J3_checkIndex_8e157 [.int a0, .int a1, va_rf a2] 0 0 post := by
  refine q_start hG (Qc := fun A => va_Qi post (p_Post D cy A) A) mf_J3_checkIndex_8e157 (by cases a2 <;> exact Nat.le_of_ble_eq_true rfl) (own := RJ3) rfl ?_
  intro p e s m below meth c A X hr hlk hnm ls hl hH
  have hx := X.1.1
  have hb := X.1.2.1
  replace hl : lv_has ls 3 [(0, .int a0), (1, .int a1), (2, va_rf a2)] := hl
  obtain ⟨H, hHe⟩ : ∃ H, H = s.heap := ⟨_, rfl⟩
  obtain ⟨locs, hlo⟩ : ∃ locs : List Loc, locs = [] := ⟨_, rfl⟩
  rw [← hHe, ← hlo] at hH
  show W p l e rm_J3_checkIndex_8e157 s m [.int a0, .int a1, va_rf a2].toArray below meth c s.heap [] 0 0 _ _
  rw [← hHe, ← hlo]
  have hJ9 : ∀ (S : PS) (l2 : Option Nat), f_J3_checkIndex_8e157_J9 post S l2 → ∀ (H : Heap) (locs : List Loc) (ls : Array Slot), p_H D cy S A s H locs → lv_has ls 3 [(2, va_rf l2)] → W p l e rm_J3_checkIndex_8e157 s m [.int a0, .int a1, va_rf a2].toArray below meth c H locs 0 0 (MQ below (va_Qi post (p_Post D cy A) A) [.int a0, .int a1, va_rf a2].toArray s 0 0 A) (F0 m 9 ls []) := by
    intro S l2 hf H locs ls hH hl
    exact hf.elim
  refine lv_iload_n hx hb dJ3_checkIndex_8e157_0 rfl (lv_at hl 0 rfl) ?_
  refine lv_if_lt (tgt := 9) hx hb dJ3_checkIndex_8e157_1 (by decide) (fun c1 => ?_) (fun c1 => ?_)
  · have hf := (if_pos c1).mp hf
    exact hJ9 S a2 hf H locs ls hH (lv_sub hl [2] rfl)
  · have hf := (if_neg c1).mp hf
    refine lv_iload_n hx hb dJ3_checkIndex_8e157_4 rfl (lv_at hl 0 rfl) ?_
    refine lv_iload_n hx hb dJ3_checkIndex_8e157_5 rfl (lv_at hl 1 rfl) ?_
    refine lv_icmp_lt (tgt := 16) hx hb dJ3_checkIndex_8e157_6 (by decide) (fun c2 => ?_) (fun c2 => ?_)
    · have hf := (if_pos c2).mp hf
      refine lv_iload_n hx hb dJ3_checkIndex_8e157_16 rfl (lv_at hl 0 rfl) ?_
      exact q_retI X hH hr hlk hf (Nat.zero_le _) (Nat.zero_le _) dJ3_checkIndex_8e157_17
    · have hf := (if_neg c2).mp hf
      exact hJ9 S a2 hf H locs ls hH (lv_sub hl [2] rfl)
-- J0_coder_7d493_p
def f_J0_coder_7d493_p (S : PS) (a0 : Nat) (post : Int32 → PS → Prop) : Prop :=
  if (1 : Int32) = 0 then
    nZ .byte 1 (post 1 S)
  else
    gI S a0 0 1 fun v2 => (
    nZ .byte v2 (post v2 S))
abbrev rm_J0_coder_7d493_p : Room := { frames := 0, cells := 0, slots := 0, locals := 0 }
set_option maxHeartbeats 4000000 in
set_option maxRecDepth 100000 in
theorem c_J0_coder_7d493_p (l : Launch) (D : va_G) (cy : Nat → ClassId) (G : p_GT) (hG : p_ok G) (hGC : ∀ (A : Nat → Prop) (U : State) (H : Heap), G A U H → gC A U H) (S : PS) (a0 : Nat) (post : Int32 → PS → Prop) (sz : Nat) (hf : f_J0_coder_7d493_p S a0 post) : p_Mi l D cy G S sz yJ0_coder_7d493 (Cond.code yJ0_coder_7d493 cJ0_coder_7d493 1 (some .byte) :: wG) rm_J0_coder_7d493_p [.ref a0] 0 0 post := by
  refine q_start hG (Qc := fun A => va_Qi post (p_Post D cy A) A) mf_J0_coder_7d493 (Nat.le_of_ble_eq_true rfl) (own := RJ0) rfl ?_
  intro p e s m below meth c A X hr hlk hnm ls hl hH
  have hx := X.1.1
  have hb := X.1.2.1
  replace hl : lv_has ls 1 [(0, .ref a0)] := hl
  obtain ⟨H, hHe⟩ : ∃ H, H = s.heap := ⟨_, rfl⟩
  obtain ⟨locs, hlo⟩ : ∃ locs : List Loc, locs = [] := ⟨_, rfl⟩
  rw [← hHe, ← hlo] at hH
  show W p l e rm_J0_coder_7d493_p s m [.ref a0].toArray below meth c s.heap [] 0 0 _ _
  rw [← hHe, ← hlo]
  refine q_getsC X hH (hGC _ _ _ X.2.2.2.2) tw_1172 dJ0_coder_7d493_0 ?_
  refine lv_if_eq (tgt := 13) hx hb dJ0_coder_7d493_3 (by decide) (fun c1 => ?_) (fun c1 => ?_)
  · have hf := (if_pos c1).mp hf
    refine lv_iconst (v := 1) hx hb dJ0_coder_7d493_13 (by decide) ?_
    exact q_retZ X hH hr hlk hf (Nat.zero_le _) (Nat.zero_le _) dJ0_coder_7d493_14
  · have hf := (if_neg c1).mp hf
    refine lv_aload_n hx hb dJ0_coder_7d493_6 rfl (lv_at hl 0 rfl) ?_
    refine q_getI (T := TJ0) (N := 4) X hH hf iw_J0 rfl (by decide) tw_1284 (fun _ h => h) dJ0_coder_7d493_7 (fun v2 hf => ?_)
    refine lv_goto (tgt := 14) hx hb dJ0_coder_7d493_10 (by decide) ?_
    exact q_retZ X hH hr hlk hf (Nat.zero_le _) (Nat.zero_le _) dJ0_coder_7d493_14
-- J0_getBytes_840e7_p
def f_J0_getBytes_840e7_p (S : PS) (a0 : Nat) (a1 : Nat) (a2 : Int32) (a3 : Int32) (post : PS → Prop) : Prop :=
  isO S a0 0 (
  f_J0_coder_7d493_p S a0 fun v2 S1 => (
  if v2 = a3 then
    gR S1 a0 0 0 fun v4 => (
    gR S1 a0 0 0 fun v5 => (
    lE S1 v5 fun v6 => (
    cpB S1 v4 0 a1 (a2 <<< (a3 &&& 31)) v6 fun S7 => (
    post S7))))
  else
    False))
abbrev rm_J0_getBytes_840e7_p : Room := { frames := 1, cells := 0, slots := 0, locals := 60 }
set_option maxHeartbeats 4000000 in
set_option maxRecDepth 100000 in
theorem c_J0_getBytes_840e7_p (l : Launch) (D : va_G) (cy : Nat → ClassId) (G : p_GT) (hG : p_ok G) (hGC : ∀ (A : Nat → Prop) (U : State) (H : Heap), G A U H → gC A U H) (S : PS) (a0 : Nat) (a1 : Nat) (a2 : Int32) (a3 : Int32) (post : PS → Prop) (sz : Nat) (hf : f_J0_getBytes_840e7_p S a0 a1 a2 a3 post) : p_Mv l D cy G S sz yJ0_getBytes_840e7 (Cond.code yJ0_getBytes_840e7 cJ0_getBytes_840e7 4 none :: wG) rm_J0_getBytes_840e7_p [.ref a0, .ref a1, .int a2, .int a3] 0 0 post := by
  refine q_start hG (Qc := fun A => va_Qv post (p_Post D cy A) A) mf_J0_getBytes_840e7 (Nat.le_of_ble_eq_true rfl) (own := RJ0) rfl ?_
  intro p e s m below meth c A X hr hlk hnm ls hl hH
  have hx := X.1.1
  have hb := X.1.2.1
  replace hl : lv_has ls 4 [(0, .ref a0), (1, .ref a1), (2, .int a2), (3, .int a3)] := hl
  obtain ⟨H, hHe⟩ : ∃ H, H = s.heap := ⟨_, rfl⟩
  obtain ⟨locs, hlo⟩ : ∃ locs : List Loc, locs = [] := ⟨_, rfl⟩
  rw [← hHe, ← hlo] at hH
  show W p l e rm_J0_getBytes_840e7_p s m [.ref a0, .ref a1, .int a2, .int a3].toArray below meth c s.heap [] 0 0 _ _
  rw [← hHe, ← hlo]
  refine lv_aload_n hx hb dJ0_getBytes_840e7_0 rfl (lv_at hl 0 rfl) ?_
  obtain ⟨hb1, hb2, hf⟩ := hf
  refine q_backI0 X hH (q_runV [] [] X hH hl (c_J0_coder_7d493_p l D cy G X.2.2.2.1 hGC S a0 _ _ hf) mf_J0_coder_7d493 mv_J0_coder_7d493 tw_1168 ⟨Nat.le_of_ble_eq_true rfl, Nat.le_of_ble_eq_true rfl⟩ hb1 hb2 (T := TJ0) (N := 4) rfl rfl (Nat.le_of_ble_eq_true rfl) dJ0_getBytes_840e7_1 ⟨Nat.le_of_ble_eq_true rfl, Nat.le_of_ble_eq_true rfl⟩) (fun v2 S1 hf H locs hH => ?_)
  refine lv_iload_n hx hb dJ0_getBytes_840e7_4 rfl (lv_at hl 3 rfl) ?_
  refine lv_icmp_ne (tgt := 28) hx hb dJ0_getBytes_840e7_5 (by decide) (fun c3 => ?_) (fun c3 => ?_)
  · have hf := (if_neg c3).mp hf
    exact hf.elim
  · have hf := (if_pos c3).mp hf
    refine lv_aload_n hx hb dJ0_getBytes_840e7_8 rfl (lv_at hl 0 rfl) ?_
    refine q_getR (T := TJ0) (N := 4) X hH hf iw_J0 rfl (by decide) tw_1283 (fun _ h => h) dJ0_getBytes_840e7_9 (fun v4 hf => ?_)
    refine lv_iconst (v := 0) hx hb dJ0_getBytes_840e7_12 (by decide) ?_
    refine lv_aload_n hx hb dJ0_getBytes_840e7_13 rfl (lv_at hl 1 rfl) ?_
    refine lv_iload_n hx hb dJ0_getBytes_840e7_14 rfl (lv_at hl 2 rfl) ?_
    refine lv_iload_n hx hb dJ0_getBytes_840e7_15 rfl (lv_at hl 3 rfl) ?_
    refine lv_ishl hx hb dJ0_getBytes_840e7_16 ?_
    refine lv_aload_n hx hb dJ0_getBytes_840e7_17 rfl (lv_at hl 0 rfl) ?_
    refine q_getR (T := TJ0) (N := 4) X hH hf iw_J0 rfl (by decide) tw_1283 (fun _ h => h) dJ0_getBytes_840e7_18 (fun v5 hf => ?_)
    refine q_alen X hH hf dJ0_getBytes_840e7_21 (fun v6 hf => ?_)
    refine q_copyb X hH hl hf tw_1241 tw_703 tw_702 tw_46 ⟨Nat.le_of_ble_eq_true rfl, Nat.le_of_ble_eq_true rfl⟩ (Nat.le_of_ble_eq_true rfl) dJ0_getBytes_840e7_22 (fun S7 hf H locs hH => ?_)
    refine lv_goto (tgt := 43) hx hb dJ0_getBytes_840e7_25 (by decide) ?_
    exact q_retV X hH hr hlk hf (Nat.zero_le _) (Nat.zero_le _) dJ0_getBytes_840e7_43
-- J0_isLatin1_aae02_p
def f_J0_isLatin1_aae02_p (S : PS) (a0 : Nat) (post : Int32 → PS → Prop) : Prop :=
  if (1 : Int32) = 0 then
    nZ .boolean 0 (post 0 S)
  else
    gI S a0 0 1 fun v2 => (
    if v2 = 0 then
      nZ .boolean 1 (post 1 S)
    else
      nZ .boolean 0 (post 0 S))
abbrev rm_J0_isLatin1_aae02_p : Room := { frames := 0, cells := 0, slots := 0, locals := 0 }
set_option maxHeartbeats 4000000 in
set_option maxRecDepth 100000 in
theorem c_J0_isLatin1_aae02_p (l : Launch) (D : va_G) (cy : Nat → ClassId) (G : p_GT) (hG : p_ok G) (hGC : ∀ (A : Nat → Prop) (U : State) (H : Heap), G A U H → gC A U H) (S : PS) (a0 : Nat) (post : Int32 → PS → Prop) (sz : Nat) (hf : f_J0_isLatin1_aae02_p S a0 post) : p_Mi l D cy G S sz yJ0_isLatin1_aae02 (Cond.code yJ0_isLatin1_aae02 cJ0_isLatin1_aae02 1 (some .boolean) :: wG) rm_J0_isLatin1_aae02_p [.ref a0] 0 0 post := by
  refine q_start hG (Qc := fun A => va_Qi post (p_Post D cy A) A) mf_J0_isLatin1_aae02 (Nat.le_of_ble_eq_true rfl) (own := RJ0) rfl ?_
  intro p e s m below meth c A X hr hlk hnm ls hl hH
  have hx := X.1.1
  have hb := X.1.2.1
  replace hl : lv_has ls 1 [(0, .ref a0)] := hl
  obtain ⟨H, hHe⟩ : ∃ H, H = s.heap := ⟨_, rfl⟩
  obtain ⟨locs, hlo⟩ : ∃ locs : List Loc, locs = [] := ⟨_, rfl⟩
  rw [← hHe, ← hlo] at hH
  show W p l e rm_J0_isLatin1_aae02_p s m [.ref a0].toArray below meth c s.heap [] 0 0 _ _
  rw [← hHe, ← hlo]
  refine q_getsC X hH (hGC _ _ _ X.2.2.2.2) tw_1172 dJ0_isLatin1_aae02_0 ?_
  refine lv_if_eq (tgt := 17) hx hb dJ0_isLatin1_aae02_3 (by decide) (fun c1 => ?_) (fun c1 => ?_)
  · have hf := (if_pos c1).mp hf
    refine lv_iconst (v := 0) hx hb dJ0_isLatin1_aae02_17 (by decide) ?_
    exact q_retZ X hH hr hlk hf (Nat.zero_le _) (Nat.zero_le _) dJ0_isLatin1_aae02_18
  · have hf := (if_neg c1).mp hf
    refine lv_aload_n hx hb dJ0_isLatin1_aae02_6 rfl (lv_at hl 0 rfl) ?_
    refine q_getI (T := TJ0) (N := 4) X hH hf iw_J0 rfl (by decide) tw_1284 (fun _ h => h) dJ0_isLatin1_aae02_7 (fun v2 hf => ?_)
    refine lv_if_ne (tgt := 17) hx hb dJ0_isLatin1_aae02_10 (by decide) (fun c3 => ?_) (fun c3 => ?_)
    · have hf := (if_neg c3).mp hf
      refine lv_iconst (v := 0) hx hb dJ0_isLatin1_aae02_17 (by decide) ?_
      exact q_retZ X hH hr hlk hf (Nat.zero_le _) (Nat.zero_le _) dJ0_isLatin1_aae02_18
    · have hf := (if_pos c3).mp hf
      refine lv_iconst (v := 1) hx hb dJ0_isLatin1_aae02_13 (by decide) ?_
      refine lv_goto (tgt := 18) hx hb dJ0_isLatin1_aae02_14 (by decide) ?_
      exact q_retZ X hH hr hlk hf (Nat.zero_le _) (Nat.zero_le _) dJ0_isLatin1_aae02_18
-- J0_length_8abf5_p
def f_J0_length_8abf5_p (S : PS) (a0 : Nat) (post : Int32 → PS → Prop) : Prop :=
  gR S a0 0 0 fun v1 => (
  lE S v1 fun v2 => (
  isO S a0 0 (
  f_J0_coder_7d493_p S a0 fun v4 S3 => (
  post (v2 >>> (v4 &&& 31)) S3))))
abbrev rm_J0_length_8abf5_p : Room := { frames := 1, cells := 0, slots := 0, locals := 20 }
set_option maxHeartbeats 4000000 in
set_option maxRecDepth 100000 in
theorem c_J0_length_8abf5_p (l : Launch) (D : va_G) (cy : Nat → ClassId) (G : p_GT) (hG : p_ok G) (hGC : ∀ (A : Nat → Prop) (U : State) (H : Heap), G A U H → gC A U H) (S : PS) (a0 : Nat) (post : Int32 → PS → Prop) (sz : Nat) (hf : f_J0_length_8abf5_p S a0 post) : p_Mi l D cy G S sz yJ0_length_8abf5 (Cond.code yJ0_length_8abf5 cJ0_length_8abf5 1 (some .int) :: wG) rm_J0_length_8abf5_p [.ref a0] 0 0 post := by
  refine q_start hG (Qc := fun A => va_Qi post (p_Post D cy A) A) mf_J0_length_8abf5 (Nat.le_of_ble_eq_true rfl) (own := RJ0) rfl ?_
  intro p e s m below meth c A X hr hlk hnm ls hl hH
  have hx := X.1.1
  have hb := X.1.2.1
  replace hl : lv_has ls 1 [(0, .ref a0)] := hl
  obtain ⟨H, hHe⟩ : ∃ H, H = s.heap := ⟨_, rfl⟩
  obtain ⟨locs, hlo⟩ : ∃ locs : List Loc, locs = [] := ⟨_, rfl⟩
  rw [← hHe, ← hlo] at hH
  show W p l e rm_J0_length_8abf5_p s m [.ref a0].toArray below meth c s.heap [] 0 0 _ _
  rw [← hHe, ← hlo]
  refine lv_aload_n hx hb dJ0_length_8abf5_0 rfl (lv_at hl 0 rfl) ?_
  refine q_getR (T := TJ0) (N := 4) X hH hf iw_J0 rfl (by decide) tw_1283 (fun _ h => h) dJ0_length_8abf5_1 (fun v1 hf => ?_)
  refine q_alen X hH hf dJ0_length_8abf5_4 (fun v2 hf => ?_)
  refine lv_aload_n hx hb dJ0_length_8abf5_5 rfl (lv_at hl 0 rfl) ?_
  obtain ⟨hb1, hb2, hf⟩ := hf
  refine q_backI0 X hH (q_runV [] [.int v2] X hH hl (c_J0_coder_7d493_p l D cy G X.2.2.2.1 hGC S a0 _ _ hf) mf_J0_coder_7d493 mv_J0_coder_7d493 tw_1168 ⟨Nat.le_of_ble_eq_true rfl, Nat.le_of_ble_eq_true rfl⟩ hb1 hb2 (T := TJ0) (N := 4) rfl rfl (Nat.le_of_ble_eq_true rfl) dJ0_length_8abf5_6 ⟨Nat.le_of_ble_eq_true rfl, Nat.le_of_ble_eq_true rfl⟩) (fun v4 S3 hf H locs hH => ?_)
  refine lv_ishr hx hb dJ0_length_8abf5_9 ?_
  exact q_retI X hH hr hlk hf (Nat.zero_le _) (Nat.zero_le _) dJ0_length_8abf5_10
-- J5_inflateIfNeededFor_a7421_p
def f_J5_inflateIfNeededFor_a7421_p (S : PS) (a0 : Nat) (a1 : Nat) (post : PS → Prop) : Prop :=
  if (1 : Int32) = 0 then
    post S
  else
    gI S a0 1 1 fun v2 => (
    isO S a1 0 (
    f_J0_coder_7d493_p S a1 fun v4 S3 => (
    if v2 = v4 then
      post S3
    else
      False)))
abbrev rm_J5_inflateIfNeededFor_a7421_p : Room := { frames := 1, cells := 0, slots := 0, locals := 20 }
set_option maxHeartbeats 4000000 in
set_option maxRecDepth 100000 in
theorem c_J5_inflateIfNeededFor_a7421_p (l : Launch) (D : va_G) (cy : Nat → ClassId) (G : p_GT) (hG : p_ok G) (hGC : ∀ (A : Nat → Prop) (U : State) (H : Heap), G A U H → gC A U H) (S : PS) (a0 : Nat) (a1 : Nat) (post : PS → Prop) (sz : Nat) (hf : f_J5_inflateIfNeededFor_a7421_p S a0 a1 post) : p_Mv l D cy G S sz yJ5_inflateIfNeededFor_a7421 (Cond.code yJ5_inflateIfNeededFor_a7421 cJ5_inflateIfNeededFor_a7421 2 none :: wG) rm_J5_inflateIfNeededFor_a7421_p [.ref a0, .ref a1] 0 0 post := by
  refine q_start hG (Qc := fun A => va_Qv post (p_Post D cy A) A) mf_J5_inflateIfNeededFor_a7421 (Nat.le_of_ble_eq_true rfl) (own := RJ5) rfl ?_
  intro p e s m below meth c A X hr hlk hnm ls hl hH
  have hx := X.1.1
  have hb := X.1.2.1
  replace hl : lv_has ls 2 [(0, .ref a0), (1, .ref a1)] := hl
  obtain ⟨H, hHe⟩ : ∃ H, H = s.heap := ⟨_, rfl⟩
  obtain ⟨locs, hlo⟩ : ∃ locs : List Loc, locs = [] := ⟨_, rfl⟩
  rw [← hHe, ← hlo] at hH
  show W p l e rm_J5_inflateIfNeededFor_a7421_p s m [.ref a0, .ref a1].toArray below meth c s.heap [] 0 0 _ _
  rw [← hHe, ← hlo]
  refine q_getsC X hH (hGC _ _ _ X.2.2.2.2) tw_186 dJ5_inflateIfNeededFor_a7421_0 ?_
  refine lv_if_eq (tgt := 21) hx hb dJ5_inflateIfNeededFor_a7421_3 (by decide) (fun c1 => ?_) (fun c1 => ?_)
  · have hf := (if_pos c1).mp hf
    exact q_retV X hH hr hlk hf (Nat.zero_le _) (Nat.zero_le _) dJ5_inflateIfNeededFor_a7421_21
  · have hf := (if_neg c1).mp hf
    refine lv_aload_n hx hb dJ5_inflateIfNeededFor_a7421_6 rfl (lv_at hl 0 rfl) ?_
    refine q_getI (T := TJ4) (N := 4) X hH hf iw_J4 rfl (by decide) tw_196 (fun _ h => h) dJ5_inflateIfNeededFor_a7421_7 (fun v2 hf => ?_)
    refine lv_aload_n hx hb dJ5_inflateIfNeededFor_a7421_10 rfl (lv_at hl 1 rfl) ?_
    obtain ⟨hb1, hb2, hf⟩ := hf
    refine q_backI0 X hH (q_runV [] [.int v2] X hH hl (c_J0_coder_7d493_p l D cy G X.2.2.2.1 hGC S a1 _ _ hf) mf_J0_coder_7d493 mv_J0_coder_7d493 tw_1236 ⟨Nat.le_of_ble_eq_true rfl, Nat.le_of_ble_eq_true rfl⟩ hb1 hb2 (T := TJ0) (N := 4) rfl rfl (Nat.le_of_ble_eq_true rfl) dJ5_inflateIfNeededFor_a7421_11 ⟨Nat.le_of_ble_eq_true rfl, Nat.le_of_ble_eq_true rfl⟩) (fun v4 S3 hf H locs hH => ?_)
    refine lv_icmp_eq (tgt := 21) hx hb dJ5_inflateIfNeededFor_a7421_14 (by decide) (fun c5 => ?_) (fun c5 => ?_)
    · have hf := (if_pos c5).mp hf
      exact q_retV X hH hr hlk hf (Nat.zero_le _) (Nat.zero_le _) dJ5_inflateIfNeededFor_a7421_21
    · have hf := (if_neg c5).mp hf
      exact hf.elim
-- J5_putStringAt_47b60_p
def f_J5_putStringAt_47b60_p (S : PS) (a0 : Nat) (a1 : Int32) (a2 : Nat) (post : PS → Prop) : Prop :=
  isO S a0 1 (
  f_J5_inflateIfNeededFor_a7421_p S a0 a2 fun S1 => (
  gR S1 a0 1 0 fun v3 => (
  gI S1 a0 1 1 fun v4 => (
  isO S1 a2 0 (
  f_J0_getBytes_840e7_p S1 a2 v3 a1 v4 fun S5 => (
  post S5))))))
abbrev rm_J5_putStringAt_47b60_p : Room := { frames := 2, cells := 0, slots := 0, locals := 83 }
set_option maxHeartbeats 4000000 in
set_option maxRecDepth 100000 in
theorem c_J5_putStringAt_47b60_p (l : Launch) (D : va_G) (cy : Nat → ClassId) (G : p_GT) (hG : p_ok G) (hGC : ∀ (A : Nat → Prop) (U : State) (H : Heap), G A U H → gC A U H) (hGU : ∀ (A : Nat → Prop) (U : State) (H : Heap), G A U H → gU A U H) (S : PS) (a0 : Nat) (a1 : Int32) (a2 : Nat) (post : PS → Prop) (sz : Nat) (hf : f_J5_putStringAt_47b60_p S a0 a1 a2 post) : p_Mv l D cy G S sz yJ5_putStringAt_47b60 (Cond.code yJ5_putStringAt_47b60 cJ5_putStringAt_47b60 3 none :: wG) rm_J5_putStringAt_47b60_p [.ref a0, .int a1, .ref a2] 0 0 post := by
  refine q_start hG (Qc := fun A => va_Qv post (p_Post D cy A) A) mf_J5_putStringAt_47b60 (Nat.le_of_ble_eq_true rfl) (own := RJ5) rfl ?_
  intro p e s m below meth c A X hr hlk hnm ls hl hH
  have hx := X.1.1
  have hb := X.1.2.1
  replace hl : lv_has ls 3 [(0, .ref a0), (1, .int a1), (2, .ref a2)] := hl
  obtain ⟨H, hHe⟩ : ∃ H, H = s.heap := ⟨_, rfl⟩
  obtain ⟨locs, hlo⟩ : ∃ locs : List Loc, locs = [] := ⟨_, rfl⟩
  rw [← hHe, ← hlo] at hH
  show W p l e rm_J5_putStringAt_47b60_p s m [.ref a0, .int a1, .ref a2].toArray below meth c s.heap [] 0 0 _ _
  rw [← hHe, ← hlo]
  refine lv_aload_n hx hb dJ5_putStringAt_47b60_0 rfl (lv_at hl 0 rfl) ?_
  refine lv_aload_n hx hb dJ5_putStringAt_47b60_1 rfl (lv_at hl 2 rfl) ?_
  obtain ⟨hb1, hb2, hf⟩ := hf
  refine q_backV0 X hH (q_runU [.ref a2] [] X hH hl (c_J5_inflateIfNeededFor_a7421_p l D cy G X.2.2.2.1 hGC S a0 a2 _ _ hf) mf_J5_inflateIfNeededFor_a7421 ⟨tw_1234, tw_1311⟩ (va_Nw.use rfl (hGU _ _ _ X.2.2.2.2).2.2.1) tw_1232 ⟨Nat.le_of_ble_eq_true rfl, Nat.le_of_ble_eq_true rfl⟩ hb1 hb2 rfl (Nat.le_of_ble_eq_true rfl) dJ5_putStringAt_47b60_2 ⟨Nat.le_of_ble_eq_true rfl, Nat.le_of_ble_eq_true rfl⟩) (fun S1 hf H locs hH => ?_)
  refine lv_aload_n hx hb dJ5_putStringAt_47b60_5 rfl (lv_at hl 2 rfl) ?_
  refine lv_aload_n hx hb dJ5_putStringAt_47b60_6 rfl (lv_at hl 0 rfl) ?_
  refine q_getR (T := TJ4) (N := 4) X hH hf iw_J4 rfl (by decide) tw_195 (fun _ h => h) dJ5_putStringAt_47b60_7 (fun v3 hf => ?_)
  refine lv_iload_n hx hb dJ5_putStringAt_47b60_10 rfl (lv_at hl 1 rfl) ?_
  refine lv_aload_n hx hb dJ5_putStringAt_47b60_11 rfl (lv_at hl 0 rfl) ?_
  refine q_getI (T := TJ4) (N := 4) X hH hf iw_J4 rfl (by decide) tw_196 (fun _ h => h) dJ5_putStringAt_47b60_12 (fun v4 hf => ?_)
  obtain ⟨hb1, hb2, hf⟩ := hf
  refine q_backV0 X hH (q_runV [.ref v3, .int a1, .int v4] [] X hH hl (c_J0_getBytes_840e7_p l D cy G X.2.2.2.1 hGC S1 a2 v3 a1 v4 _ _ hf) mf_J0_getBytes_840e7 mv_J0_getBytes_840e7 tw_1237 ⟨Nat.le_of_ble_eq_true rfl, Nat.le_of_ble_eq_true rfl⟩ hb1 hb2 (T := TJ0) (N := 4) rfl rfl (Nat.le_of_ble_eq_true rfl) dJ5_putStringAt_47b60_15 ⟨Nat.le_of_ble_eq_true rfl, Nat.le_of_ble_eq_true rfl⟩) (fun S5 hf H locs hH => ?_)
  exact q_retV X hH hr hlk hf (Nat.zero_le _) (Nat.zero_le _) dJ5_putStringAt_47b60_18
-- J5_newCapacity_0f7a4
def f_J5_newCapacity_0f7a4 (S : PS) (a0 : Nat) (a1 : Int32) (post : Int32 → PS → Prop) : Prop :=
  gR S a0 1 0 fun v1 => (
  lE S v1 fun v2 => (
  gI S a0 1 1 fun v3 => (
  gI S a0 1 1 fun v4 => (
  f_J8_newLength_cabcc S v2 ((a1 <<< (v3 &&& 31)) - v2) (v2 + ((2 : Int32) <<< (v4 &&& 31))) fun v6 S5 => (
  if v6 = 2147483647 then
    False
  else
    gI S5 a0 1 1 fun v8 => (
    post (v6 >>> (v8 &&& 31)) S5))))))
abbrev rm_J5_newCapacity_0f7a4 : Room := { frames := 2, cells := 0, slots := 0, locals := 44 }
set_option maxHeartbeats 4000000 in
set_option maxRecDepth 100000 in
theorem c_J5_newCapacity_0f7a4 (l : Launch) (D : va_G) (cy : Nat → ClassId) (G : p_GT) (hG : p_ok G) (S : PS) (a0 : Nat) (a1 : Int32) (post : Int32 → PS → Prop) (sz : Nat) (hf : f_J5_newCapacity_0f7a4 S a0 a1 post) : p_Mi l D cy G S sz yJ5_newCapacity_0f7a4 (Cond.code yJ5_newCapacity_0f7a4 cJ5_newCapacity_0f7a4 6 (some .int) :: wG) rm_J5_newCapacity_0f7a4 [.ref a0, .int a1] 0 0 post := by
  refine q_start hG (Qc := fun A => va_Qi post (p_Post D cy A) A) mf_J5_newCapacity_0f7a4 (Nat.le_of_ble_eq_true rfl) (own := RJ5) rfl ?_
  intro p e s m below meth c A X hr hlk hnm ls hl hH
  have hx := X.1.1
  have hb := X.1.2.1
  replace hl : lv_has ls 6 [(0, .ref a0), (1, .int a1)] := hl
  obtain ⟨H, hHe⟩ : ∃ H, H = s.heap := ⟨_, rfl⟩
  obtain ⟨locs, hlo⟩ : ∃ locs : List Loc, locs = [] := ⟨_, rfl⟩
  rw [← hHe, ← hlo] at hH
  show W p l e rm_J5_newCapacity_0f7a4 s m [.ref a0, .int a1].toArray below meth c s.heap [] 0 0 _ _
  rw [← hHe, ← hlo]
  refine lv_aload_n hx hb dJ5_newCapacity_0f7a4_0 rfl (lv_at hl 0 rfl) ?_
  refine q_getR (T := TJ4) (N := 4) X hH hf iw_J4 rfl (by decide) tw_195 (fun _ h => h) dJ5_newCapacity_0f7a4_1 (fun v1 hf => ?_)
  refine q_alen X hH hf dJ5_newCapacity_0f7a4_4 (fun v2 hf => ?_)
  refine lv_istore_n (lv' := [(2, .int v2), (0, .ref a0), (1, .int a1)]) hx hb dJ5_newCapacity_0f7a4_5 rfl hl (by decide) rfl (fun ls hl => ?_)
  refine lv_iload_n hx hb dJ5_newCapacity_0f7a4_6 rfl (lv_at hl 2 rfl) ?_
  refine lv_aload_n hx hb dJ5_newCapacity_0f7a4_7 rfl (lv_at hl 1 rfl) ?_
  refine q_getI (T := TJ4) (N := 4) X hH hf iw_J4 rfl (by decide) tw_196 (fun _ h => h) dJ5_newCapacity_0f7a4_8 (fun v3 hf => ?_)
  refine lv_ishl hx hb dJ5_newCapacity_0f7a4_11 ?_
  refine lv_istore_n (lv' := [(3, .int (a1 <<< (v3 &&& 31))), (2, .int v2), (0, .ref a0), (1, .int a1)]) hx hb dJ5_newCapacity_0f7a4_12 rfl hl (by decide) rfl (fun ls hl => ?_)
  refine lv_iload_n hx hb dJ5_newCapacity_0f7a4_13 rfl (lv_at hl 0 rfl) ?_
  refine lv_iload_n hx hb dJ5_newCapacity_0f7a4_14 rfl (lv_at hl 1 rfl) ?_
  refine lv_isub hx hb dJ5_newCapacity_0f7a4_15 ?_
  refine lv_istore (lv' := [(4, .int ((a1 <<< (v3 &&& 31)) - v2)), (3, .int (a1 <<< (v3 &&& 31))), (2, .int v2), (0, .ref a0), (1, .int a1)]) hx hb dJ5_newCapacity_0f7a4_16 hl (by decide) rfl (fun ls hl => ?_)
  refine lv_iload_n hx hb dJ5_newCapacity_0f7a4_18 rfl (lv_at hl 2 rfl) ?_
  refine lv_iload hx hb dJ5_newCapacity_0f7a4_19 (lv_at hl 0 rfl) ?_
  refine lv_iload_n hx hb dJ5_newCapacity_0f7a4_21 rfl (lv_at hl 2 rfl) ?_
  refine lv_iconst (v := 2) hx hb dJ5_newCapacity_0f7a4_22 (by decide) ?_
  refine lv_aload_n hx hb dJ5_newCapacity_0f7a4_23 rfl (lv_at hl 3 rfl) ?_
  refine q_getI (T := TJ4) (N := 4) X hH hf iw_J4 rfl (by decide) tw_196 (fun _ h => h) dJ5_newCapacity_0f7a4_24 (fun v4 hf => ?_)
  refine lv_ishl hx hb dJ5_newCapacity_0f7a4_27 ?_
  refine lv_iadd hx hb dJ5_newCapacity_0f7a4_28 ?_
  refine q_backI0 X hH (q_runS [.int v2, .int ((a1 <<< (v3 &&& 31)) - v2), .int (v2 + ((2 : Int32) <<< (v4 &&& 31)))] [] X hH hl (c_J8_newLength_cabcc l D cy G X.2.2.2.1 S v2 ((a1 <<< (v3 &&& 31)) - v2) (v2 + ((2 : Int32) <<< (v4 &&& 31))) _ _ hf) mf_J8_newLength_cabcc tw_682 tw_681 ⟨Nat.le_of_ble_eq_true rfl, Nat.le_of_ble_eq_true rfl⟩ rfl (Nat.le_of_ble_eq_true rfl) dJ5_newCapacity_0f7a4_29 ⟨Nat.le_of_ble_eq_true rfl, Nat.le_of_ble_eq_true rfl⟩) (fun v6 S5 hf H locs hH => ?_)
  refine lv_istore (lv' := [(5, .int v6), (4, .int ((a1 <<< (v3 &&& 31)) - v2)), (3, .int (a1 <<< (v3 &&& 31))), (2, .int v2), (0, .ref a0), (1, .int a1)]) hx hb dJ5_newCapacity_0f7a4_32 hl (by decide) rfl (fun ls hl => ?_)
  refine lv_iload hx hb dJ5_newCapacity_0f7a4_34 (lv_at hl 0 rfl) ?_
  refine lv_ldc (v := 2147483647) hx hb X.1.2.2.2.1 (X.1.2.2.2.2 _ tw_689) dJ5_newCapacity_0f7a4_36 ?_
  refine lv_icmp_ne (tgt := 51) hx hb dJ5_newCapacity_0f7a4_38 (by decide) (fun c7 => ?_) (fun c7 => ?_)
  · have hf := (if_neg c7).mp hf
    refine lv_iload hx hb dJ5_newCapacity_0f7a4_51 (lv_at hl 0 rfl) ?_
    refine lv_aload_n hx hb dJ5_newCapacity_0f7a4_53 rfl (lv_at hl 4 rfl) ?_
    refine q_getI (T := TJ4) (N := 4) X hH hf iw_J4 rfl (by decide) tw_196 (fun _ h => h) dJ5_newCapacity_0f7a4_54 (fun v8 hf => ?_)
    refine lv_ishr hx hb dJ5_newCapacity_0f7a4_57 ?_
    exact q_retI X hH hr hlk hf (Nat.zero_le _) (Nat.zero_le _) dJ5_newCapacity_0f7a4_58
  · have hf := (if_pos c7).mp hf
    exact hf.elim
