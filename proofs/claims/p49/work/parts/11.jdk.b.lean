-- J5_inflateIfNeededFor_a7421
def f_J5_inflateIfNeededFor_a7421 (adK : Nat → Nat) (S : PS) (a0 : Nat) (a1 : Nat) (post : PS → Prop) : Prop :=
  if (1 : Int32) = 0 then
    post S
  else
    gI S a0 1 1 fun v2 => (
    sK adK a1 fun k5 => (f_J0_coder_7d493 adK S a1 fun v4 S3 => (
    if v2 = v4 then
      post S3
    else
      False)))
abbrev rm_J5_inflateIfNeededFor_a7421 : Room := { frames := 1, cells := 0, slots := 0, locals := 20 }
set_option maxHeartbeats 4000000 in
set_option maxRecDepth 100000 in
theorem c_J5_inflateIfNeededFor_a7421 (l : Launch) (D : va_G) (cy : Nat → ClassId) (G : p_GT) (hG : p_ok G) (hGC : ∀ (A : Nat → Prop) (U : State) (H : Heap), G A U H → gC A U H) (adK adV : Nat → Nat) (hGK : ∀ (A : Nat → Prop) (U : State) (H : Heap), G A U H → gK adK adV A U H) (S : PS) (a0 : Nat) (a1 : Nat) (post : PS → Prop) (sz : Nat) (hf : f_J5_inflateIfNeededFor_a7421 adK S a0 a1 post) : p_Mv l D cy G S sz yJ5_inflateIfNeededFor_a7421 (Cond.code yJ5_inflateIfNeededFor_a7421 cJ5_inflateIfNeededFor_a7421 2 none :: wG) rm_J5_inflateIfNeededFor_a7421 [.ref a0, .ref a1] 0 0 post := by
  refine q_start hG (Qc := fun A => va_Qv post (p_Post D cy A) A) mf_J5_inflateIfNeededFor_a7421 (Nat.le_of_ble_eq_true rfl) (own := RJ5) rfl ?_
  intro p e s m below meth c A X hr hlk hnm ls hl hH
  have hx := X.1.1
  have hb := X.1.2.1
  replace hl : lv_has ls 2 [(0, .ref a0), (1, .ref a1)] := hl
  obtain ⟨H, hHe⟩ : ∃ H, H = s.heap := ⟨_, rfl⟩
  obtain ⟨locs, hlo⟩ : ∃ locs : List Loc, locs = [] := ⟨_, rfl⟩
  rw [← hHe, ← hlo] at hH
  show W p l e rm_J5_inflateIfNeededFor_a7421 s m [.ref a0, .ref a1].toArray below meth c s.heap [] 0 0 _ _
  rw [← hHe, ← hlo]
  refine q_getsC X hH (hGC _ _ _ X.2.2.2.2) tw_186 dJ5_inflateIfNeededFor_a7421_0 ?_
  refine lv_if_eq (tgt := 21) hx hb dJ5_inflateIfNeededFor_a7421_3 (by decide) (fun c1 => ?_) (fun c1 => ?_)
  · have hf := (if_pos c1).mp hf
    exact q_retV X hH hr hlk hf (Nat.zero_le _) (Nat.zero_le _) dJ5_inflateIfNeededFor_a7421_21
  · have hf := (if_neg c1).mp hf
    refine lv_aload_n hx hb dJ5_inflateIfNeededFor_a7421_6 rfl (lv_at hl 0 rfl) ?_
    refine q_getI (T := TJ4) (N := 4) X hH hf iw_J4 rfl (by decide) tw_196 (fun _ h => h) dJ5_inflateIfNeededFor_a7421_7 (fun v2 hf => ?_)
    refine lv_aload_n hx hb dJ5_inflateIfNeededFor_a7421_10 rfl (lv_at hl 1 rfl) ?_
    obtain ⟨k5, hk5, hek5, hf⟩ := hf
    refine q_backI0 X hH (q_runK [] [.int v2] X hH hl (c_J0_coder_7d493 l D cy G X.2.2.2.1 hGC adK adV hGK S a1 _ _ hf) mf_J0_coder_7d493 mv_J0_coder_7d493 tw_1236 ⟨Nat.le_of_ble_eq_true rfl, Nat.le_of_ble_eq_true rfl⟩ (hGK _ _ _ X.2.2.2.2) hk5 hek5 rfl rfl (Nat.le_of_ble_eq_true rfl) dJ5_inflateIfNeededFor_a7421_11 ⟨Nat.le_of_ble_eq_true rfl, Nat.le_of_ble_eq_true rfl⟩) (fun v4 S3 hf H locs hH => ?_)
    refine lv_icmp_eq (tgt := 21) hx hb dJ5_inflateIfNeededFor_a7421_14 (by decide) (fun c6 => ?_) (fun c6 => ?_)
    · have hf := (if_pos c6).mp hf
      exact q_retV X hH hr hlk hf (Nat.zero_le _) (Nat.zero_le _) dJ5_inflateIfNeededFor_a7421_21
    · have hf := (if_neg c6).mp hf
      exact hf.elim
-- J0_length_8abf5
def f_J0_length_8abf5 (adK : Nat → Nat) (S : PS) (a0 : Nat) (post : Int32 → PS → Prop) : Prop :=
  sK adK a0 fun k1 => (
  k1 < 5 ∧ (
  (f_J0_coder_7d493 adK S (adK k1) fun v3 S2 => (
  post ((Int32.ofNat (txL.getD k1 0)) >>> (v3 &&& 31)) S2))))
abbrev rm_J0_length_8abf5 : Room := { frames := 1, cells := 0, slots := 0, locals := 20 }
set_option maxHeartbeats 4000000 in
set_option maxRecDepth 100000 in
theorem c_J0_length_8abf5 (l : Launch) (D : va_G) (cy : Nat → ClassId) (G : p_GT) (hG : p_ok G) (hGC : ∀ (A : Nat → Prop) (U : State) (H : Heap), G A U H → gC A U H) (adK adV : Nat → Nat) (hGK : ∀ (A : Nat → Prop) (U : State) (H : Heap), G A U H → gK adK adV A U H) (S : PS) (a0 : Nat) (post : Int32 → PS → Prop) (sz : Nat) (hf : f_J0_length_8abf5 adK S a0 post) : p_Mi l D cy G S sz yJ0_length_8abf5 (Cond.code yJ0_length_8abf5 cJ0_length_8abf5 1 (some .int) :: wG) rm_J0_length_8abf5 [.ref a0] 0 0 post := by
  refine q_start hG (Qc := fun A => va_Qi post (p_Post D cy A) A) mf_J0_length_8abf5 (Nat.le_of_ble_eq_true rfl) (own := RJ0) rfl ?_
  intro p e s m below meth c A X hr hlk hnm ls hl hH
  have hx := X.1.1
  have hb := X.1.2.1
  replace hl : lv_has ls 1 [(0, .ref a0)] := hl
  obtain ⟨H, hHe⟩ : ∃ H, H = s.heap := ⟨_, rfl⟩
  obtain ⟨locs, hlo⟩ : ∃ locs : List Loc, locs = [] := ⟨_, rfl⟩
  rw [← hHe, ← hlo] at hH
  show W p l e rm_J0_length_8abf5 s m [.ref a0].toArray below meth c s.heap [] 0 0 _ _
  rw [← hHe, ← hlo]
  obtain ⟨k1, hk1, hek1, hf⟩ := hf
  replace hl : lv_has ls 1 [(0, .ref (adK k1))] := by rw [← hek1]; exact hl
  refine lv_aload_n hx hb dJ0_length_8abf5_0 rfl (lv_at hl 0 rfl) ?_
  refine q_getK X hH ((hGK _ _ _ X.2.2.2.2).1.1 k1 hk1).2.2.1 tw_1283 dJ0_length_8abf5_1 ?_
  refine q_tlen (f := fun j => (txB.getD k1 []).getD j 0) X hH ((hGK _ _ _ X.2.2.2.2).1.1 k1 hf.1).2.2.2 dJ0_length_8abf5_4 ?_
  have hf := hf.2
  refine lv_aload_n hx hb dJ0_length_8abf5_5 rfl (lv_at hl 0 rfl) ?_
  refine q_backI0 X hH (q_runK [] [.int (Int32.ofNat (txL.getD k1 0))] X hH hl (c_J0_coder_7d493 l D cy G X.2.2.2.1 hGC adK adV hGK S (adK k1) _ _ hf) mf_J0_coder_7d493 mv_J0_coder_7d493 tw_1168 ⟨Nat.le_of_ble_eq_true rfl, Nat.le_of_ble_eq_true rfl⟩ (hGK _ _ _ X.2.2.2.2) hk1 rfl rfl rfl (Nat.le_of_ble_eq_true rfl) dJ0_length_8abf5_6 ⟨Nat.le_of_ble_eq_true rfl, Nat.le_of_ble_eq_true rfl⟩) (fun v3 S2 hf H locs hH => ?_)
  refine lv_ishr hx hb dJ0_length_8abf5_9 ?_
  exact q_retI X hH hr hlk hf (Nat.zero_le _) (Nat.zero_le _) dJ0_length_8abf5_10
-- J0_getBytes_840e7
def f_J0_getBytes_840e7 (adK : Nat → Nat) (S : PS) (a0 : Nat) (a1 : Nat) (a2 : Int32) (a3 : Int32) (post : PS → Prop) : Prop :=
  sK adK a0 fun k1 => (
  (f_J0_coder_7d493 adK S (adK k1) fun v3 S2 => (
  if v3 = a3 then
    k1 < 5 ∧ (
    cpK S2 k1 0 a1 (a2 <<< (a3 &&& 31)) (Int32.ofNat (txL.getD k1 0)) fun S5 => (
    post S5))
  else
    False)))
abbrev rm_J0_getBytes_840e7 : Room := { frames := 1, cells := 0, slots := 0, locals := 60 }
set_option maxHeartbeats 4000000 in
set_option maxRecDepth 100000 in
theorem c_J0_getBytes_840e7 (l : Launch) (D : va_G) (cy : Nat → ClassId) (G : p_GT) (hG : p_ok G) (hGC : ∀ (A : Nat → Prop) (U : State) (H : Heap), G A U H → gC A U H) (adK adV : Nat → Nat) (hGK : ∀ (A : Nat → Prop) (U : State) (H : Heap), G A U H → gK adK adV A U H) (S : PS) (a0 : Nat) (a1 : Nat) (a2 : Int32) (a3 : Int32) (post : PS → Prop) (sz : Nat) (hf : f_J0_getBytes_840e7 adK S a0 a1 a2 a3 post) : p_Mv l D cy G S sz yJ0_getBytes_840e7 (Cond.code yJ0_getBytes_840e7 cJ0_getBytes_840e7 4 none :: wG) rm_J0_getBytes_840e7 [.ref a0, .ref a1, .int a2, .int a3] 0 0 post := by
  refine q_start hG (Qc := fun A => va_Qv post (p_Post D cy A) A) mf_J0_getBytes_840e7 (Nat.le_of_ble_eq_true rfl) (own := RJ0) rfl ?_
  intro p e s m below meth c A X hr hlk hnm ls hl hH
  have hx := X.1.1
  have hb := X.1.2.1
  replace hl : lv_has ls 4 [(0, .ref a0), (1, .ref a1), (2, .int a2), (3, .int a3)] := hl
  obtain ⟨H, hHe⟩ : ∃ H, H = s.heap := ⟨_, rfl⟩
  obtain ⟨locs, hlo⟩ : ∃ locs : List Loc, locs = [] := ⟨_, rfl⟩
  rw [← hHe, ← hlo] at hH
  show W p l e rm_J0_getBytes_840e7 s m [.ref a0, .ref a1, .int a2, .int a3].toArray below meth c s.heap [] 0 0 _ _
  rw [← hHe, ← hlo]
  obtain ⟨k1, hk1, hek1, hf⟩ := hf
  replace hl : lv_has ls 4 [(0, .ref (adK k1)), (1, .ref a1), (2, .int a2), (3, .int a3)] := by rw [← hek1]; exact hl
  refine lv_aload_n hx hb dJ0_getBytes_840e7_0 rfl (lv_at hl 0 rfl) ?_
  refine q_backI0 X hH (q_runK [] [] X hH hl (c_J0_coder_7d493 l D cy G X.2.2.2.1 hGC adK adV hGK S (adK k1) _ _ hf) mf_J0_coder_7d493 mv_J0_coder_7d493 tw_1168 ⟨Nat.le_of_ble_eq_true rfl, Nat.le_of_ble_eq_true rfl⟩ (hGK _ _ _ X.2.2.2.2) hk1 rfl rfl rfl (Nat.le_of_ble_eq_true rfl) dJ0_getBytes_840e7_1 ⟨Nat.le_of_ble_eq_true rfl, Nat.le_of_ble_eq_true rfl⟩) (fun v3 S2 hf H locs hH => ?_)
  refine lv_iload_n hx hb dJ0_getBytes_840e7_4 rfl (lv_at hl 3 rfl) ?_
  refine lv_icmp_ne (tgt := 28) hx hb dJ0_getBytes_840e7_5 (by decide) (fun c4 => ?_) (fun c4 => ?_)
  · have hf := (if_neg c4).mp hf
    exact hf.elim
  · have hf := (if_pos c4).mp hf
    refine lv_aload_n hx hb dJ0_getBytes_840e7_8 rfl (lv_at hl 0 rfl) ?_
    refine q_getK X hH ((hGK _ _ _ X.2.2.2.2).1.1 k1 hk1).2.2.1 tw_1283 dJ0_getBytes_840e7_9 ?_
    refine lv_iconst (v := 0) hx hb dJ0_getBytes_840e7_12 (by decide) ?_
    refine lv_aload_n hx hb dJ0_getBytes_840e7_13 rfl (lv_at hl 1 rfl) ?_
    refine lv_iload_n hx hb dJ0_getBytes_840e7_14 rfl (lv_at hl 2 rfl) ?_
    refine lv_iload_n hx hb dJ0_getBytes_840e7_15 rfl (lv_at hl 3 rfl) ?_
    refine lv_ishl hx hb dJ0_getBytes_840e7_16 ?_
    refine lv_aload_n hx hb dJ0_getBytes_840e7_17 rfl (lv_at hl 0 rfl) ?_
    refine q_getK X hH ((hGK _ _ _ X.2.2.2.2).1.1 k1 hk1).2.2.1 tw_1283 dJ0_getBytes_840e7_18 ?_
    refine q_tlen (f := fun j => (txB.getD k1 []).getD j 0) X hH ((hGK _ _ _ X.2.2.2.2).1.1 k1 hf.1).2.2.2 dJ0_getBytes_840e7_21 ?_
    have hf := hf.2
    refine q_copyk X hH hl (hGK _ _ _ X.2.2.2.2) hf tw_1241 tw_703 tw_702 tw_46 ⟨Nat.le_of_ble_eq_true rfl, Nat.le_of_ble_eq_true rfl⟩ (Nat.le_of_ble_eq_true rfl) dJ0_getBytes_840e7_22 (fun S5 hf H locs hH => ?_)
    refine lv_goto (tgt := 43) hx hb dJ0_getBytes_840e7_25 (by decide) ?_
    exact q_retV X hH hr hlk hf (Nat.zero_le _) (Nat.zero_le _) dJ0_getBytes_840e7_43
-- J0_checkIndex_df160
def f_J0_checkIndex_df160 (S : PS) (a0 : Int32) (a1 : Int32) (post : PS → Prop) : Prop :=
  ∀ o1 : Option Nat, (
  f_J3_checkIndex_8e157 S a0 a1 o1 fun v3 S2 => (
  post S2))
abbrev rm_J0_checkIndex_df160 : Room := { frames := 1, cells := 0, slots := 0, locals := 22 }
set_option maxHeartbeats 4000000 in
set_option maxRecDepth 100000 in
theorem c_J0_checkIndex_df160 (l : Launch) (D : va_G) (cy : Nat → ClassId) (G : p_GT) (hG : p_ok G) (hGF : ∀ (A : Nat → Prop) (U : State) (H : Heap), G A U H → gF A U H) (S : PS) (a0 : Int32) (a1 : Int32) (post : PS → Prop) (sz : Nat) (hf : f_J0_checkIndex_df160 S a0 a1 post) : p_Mv l D cy G S sz yJ0_checkIndex_df160 (Cond.code yJ0_checkIndex_df160 cJ0_checkIndex_df160 2 none :: wG) rm_J0_checkIndex_df160 [.int a0, .int a1] 0 0 post := by
  refine q_start hG (Qc := fun A => va_Qv post (p_Post D cy A) A) mf_J0_checkIndex_df160 (Nat.le_of_ble_eq_true rfl) (own := RJ0) rfl ?_
  intro p e s m below meth c A X hr hlk hnm ls hl hH
  have hx := X.1.1
  have hb := X.1.2.1
  replace hl : lv_has ls 2 [(0, .int a0), (1, .int a1)] := hl
  obtain ⟨H, hHe⟩ : ∃ H, H = s.heap := ⟨_, rfl⟩
  obtain ⟨locs, hlo⟩ : ∃ locs : List Loc, locs = [] := ⟨_, rfl⟩
  rw [← hHe, ← hlo] at hH
  show W p l e rm_J0_checkIndex_df160 s m [.int a0, .int a1].toArray below meth c s.heap [] 0 0 _ _
  rw [← hHe, ← hlo]
  refine lv_iload_n hx hb dJ0_checkIndex_df160_0 rfl (lv_at hl 0 rfl) ?_
  refine lv_iload_n hx hb dJ0_checkIndex_df160_1 rfl (lv_at hl 1 rfl) ?_
  refine q_getsF X hH (hGF _ _ _ X.2.2.2.2) tw_763 dJ0_checkIndex_df160_2 (fun o1 => ?_)
  have hf := hf o1
  refine q_backI0 X hH (q_runS [.int a0, .int a1, va_rf o1] [] X hH hl (c_J3_checkIndex_8e157 l D cy G X.2.2.2.1 S a0 a1 o1 _ _ hf) mf_J3_checkIndex_8e157 tw_787 tw_786 ⟨Nat.le_of_ble_eq_true rfl, Nat.le_of_ble_eq_true rfl⟩ rfl (Nat.le_of_ble_eq_true rfl) dJ0_checkIndex_df160_5 ⟨Nat.le_of_ble_eq_true rfl, Nat.le_of_ble_eq_true rfl⟩) (fun v3 S2 hf H locs hH => ?_)
  refine lv_pop hx hb dJ0_checkIndex_df160_8 rfl ?_
  exact q_retV X hH hr hlk hf (Nat.zero_le _) (Nat.zero_le _) dJ0_checkIndex_df160_9
-- J1_charAt_3b067
def f_J1_charAt_3b067 (S : PS) (a0 : Nat) (a1 : Int32) (post : Int32 → PS → Prop) : Prop :=
  a0 < 5 ∧ (
  f_J0_checkIndex_df160 S a1 (Int32.ofNat (txL.getD a0 0)) fun S1 => (
  a0 < 5 ∧ vp_in (a1) (txL.getD a0 0) ∧ (
  nZ .char (((((txB.getD a0 []).getD (a1).toNatClampNeg 0) &&& 255).toUInt32 % 65536).toInt32) (post (((((txB.getD a0 []).getD (a1).toNatClampNeg 0) &&& 255).toUInt32 % 65536).toInt32) S1))))
abbrev rm_J1_charAt_3b067 : Room := { frames := 2, cells := 0, slots := 0, locals := 43 }
set_option maxHeartbeats 4000000 in
set_option maxRecDepth 100000 in
theorem c_J1_charAt_3b067 (l : Launch) (D : va_G) (cy : Nat → ClassId) (G : p_GT) (hG : p_ok G) (hGF : ∀ (A : Nat → Prop) (U : State) (H : Heap), G A U H → gF A U H) (adK adV : Nat → Nat) (hGK : ∀ (A : Nat → Prop) (U : State) (H : Heap), G A U H → gK adK adV A U H) (S : PS) (a0 : Nat) (a1 : Int32) (post : Int32 → PS → Prop) (sz : Nat) (hf : f_J1_charAt_3b067 S a0 a1 post) : p_Mi l D cy G S sz yJ1_charAt_3b067 (Cond.code yJ1_charAt_3b067 cJ1_charAt_3b067 2 (some .char) :: wG) rm_J1_charAt_3b067 [.ref (adV a0), .int a1] 0 0 post := by
  refine q_start hG (Qc := fun A => va_Qi post (p_Post D cy A) A) mf_J1_charAt_3b067 (Nat.le_of_ble_eq_true rfl) (own := RJ1) rfl ?_
  intro p e s m below meth c A X hr hlk hnm ls hl hH
  have hx := X.1.1
  have hb := X.1.2.1
  replace hl : lv_has ls 2 [(0, .ref (adV a0)), (1, .int a1)] := hl
  obtain ⟨H, hHe⟩ : ∃ H, H = s.heap := ⟨_, rfl⟩
  obtain ⟨locs, hlo⟩ : ∃ locs : List Loc, locs = [] := ⟨_, rfl⟩
  rw [← hHe, ← hlo] at hH
  show W p l e rm_J1_charAt_3b067 s m [.ref (adV a0), .int a1].toArray below meth c s.heap [] 0 0 _ _
  rw [← hHe, ← hlo]
  refine lv_iload_n hx hb dJ1_charAt_3b067_0 rfl (lv_at hl 1 rfl) ?_
  refine lv_aload_n hx hb dJ1_charAt_3b067_1 rfl (lv_at hl 0 rfl) ?_
  refine q_tlen (f := fun j => (txB.getD a0 []).getD j 0) X hH ((hGK _ _ _ X.2.2.2.2).1.1 a0 hf.1).2.2.2 dJ1_charAt_3b067_2 ?_
  have hf := hf.2
  refine q_backV0 X hH (q_runS [.int a1, .int (Int32.ofNat (txL.getD a0 0))] [] X hH hl (c_J0_checkIndex_df160 l D cy G X.2.2.2.1 hGF S a1 (Int32.ofNat (txL.getD a0 0)) _ _ hf) mf_J0_checkIndex_df160 tw_784 tw_1201 ⟨Nat.le_of_ble_eq_true rfl, Nat.le_of_ble_eq_true rfl⟩ rfl (Nat.le_of_ble_eq_true rfl) dJ1_charAt_3b067_3 ⟨Nat.le_of_ble_eq_true rfl, Nat.le_of_ble_eq_true rfl⟩) (fun S1 hf H locs hH => ?_)
  refine lv_aload_n hx hb dJ1_charAt_3b067_6 rfl (lv_at hl 0 rfl) ?_
  refine lv_iload_n hx hb dJ1_charAt_3b067_7 rfl (lv_at hl 1 rfl) ?_
  refine q_tald (f := fun j => (txB.getD a0 []).getD j 0) X hH ((hGK _ _ _ X.2.2.2.2).1.1 a0 hf.1).2.2.2 hf.2.1 dJ1_charAt_3b067_8 ?_
  have hf := hf.2.2
  refine lv_sipush (v := 255) hx hb dJ1_charAt_3b067_9 (by decide) ?_
  refine lv_iand hx hb dJ1_charAt_3b067_12 ?_
  refine lv_i2c (v := ((((txB.getD a0 []).getD (a1).toNatClampNeg 0) &&& 255).toUInt32 % 65536).toInt32) hx hb dJ1_charAt_3b067_13 rfl ?_
  exact q_retZ X hH hr hlk hf (Nat.zero_le _) (Nat.zero_le _) dJ1_charAt_3b067_14
-- J7_copyOfRange_39247
def f_J7_copyOfRange_39247_J10 (post : Nat → PS → Prop) (S : PS) (bc bs : Nat) (l0 : Nat) (l1 : Int32) (l2 : Int32) : Prop :=
  ∃ mc2 ms2 : Nat, mc2 ≤ bc ∧ ms2 ≤ bs ∧ (f_J7_copyOfRangeByte_39247 S l0 l1 l2 mc2 ms2 fun v3 S1 => (
  post v3 S1))
def f_J7_copyOfRange_39247 (S : PS) (a0 : Nat) (a1 : Int32) (a2 : Int32) (bc bs : Nat) (post : Nat → PS → Prop) : Prop :=
  if a1 = 0 then
    lE S a0 fun v2 => (
    if a2 = v2 then
      clB S a0 bc bs fun q4 S5 bc6 bs7 => (
      isB S5 q4 (
      post q4 S5))
    else
      f_J7_copyOfRange_39247_J10 post S bc bs a0 a1 a2)
  else
    f_J7_copyOfRange_39247_J10 post S bc bs a0 a1 a2
abbrev rm_J7_copyOfRange_39247 (mc ms : Nat) : Room := { frames := 2, cells := mc, slots := ms, locals := 84 }
set_option maxHeartbeats 4000000 in
set_option maxRecDepth 100000 in
theorem c_J7_copyOfRange_39247 (l : Launch) (D : va_G) (cy : Nat → ClassId) (G : p_GT) (hG : p_ok G) (hst : l.stackTraces = false) (hGE : ∀ (A : Nat → Prop) (U : State) (H : Heap), G A U H → p_Ex A U H) (S : PS) (a0 : Nat) (a1 : Int32) (a2 : Int32) (mc ms : Nat) (post : Nat → PS → Prop) (sz : Nat) (hf : f_J7_copyOfRange_39247 S a0 a1 a2 mc ms post) : p_Mr l D cy G S sz yJ7_copyOfRange_39247 (Cond.code yJ7_copyOfRange_39247 cJ7_copyOfRange_39247 3 (some (.array .byte)) :: wG) (rm_J7_copyOfRange_39247 mc ms) [.ref a0, .int a1, .int a2] mc ms post := by
  refine q_start hG (Qc := fun A => p_Qr D cy post A) mf_J7_copyOfRange_39247 (Nat.le_of_ble_eq_true rfl) (own := RJ7) rfl ?_
  intro p e s m below meth c A X hr hlk hnm ls hl hH
  have hx := X.1.1
  have hb := X.1.2.1
  replace hl : lv_has ls 3 [(0, .ref a0), (1, .int a1), (2, .int a2)] := hl
  have main : ∀ (H : Heap) (locs : List Loc) (ls : Array Slot) (cells slots bc bs : Nat), f_J7_copyOfRange_39247 S a0 a1 a2 bc bs post → p_H D cy S A s H locs → lv_has ls 3 [(0, .ref a0), (1, .int a1), (2, .int a2)] → cells + bc ≤ mc ∧ slots + bs ≤ ms → W p l e (rm_J7_copyOfRange_39247 mc ms) s m [.ref a0, .int a1, .int a2].toArray below meth c H locs cells slots (MQ below (p_Qr D cy post A) [.ref a0, .int a1, .int a2].toArray s mc ms A) (F0 m 0 ls []) := by
    intro H locs ls cells slots bc bs hf hH hl hB
    have hJ10 : ∀ (S : PS) (bc bs : Nat) (l0 : Nat) (l1 : Int32) (l2 : Int32), f_J7_copyOfRange_39247_J10 post S bc bs l0 l1 l2 → ∀ (H : Heap) (locs : List Loc) (ls : Array Slot) (cells slots : Nat), p_H D cy S A s H locs → lv_has ls 3 [(0, .ref l0), (1, .int l1), (2, .int l2)] → cells + bc ≤ mc ∧ slots + bs ≤ ms → W p l e (rm_J7_copyOfRange_39247 mc ms) s m [.ref a0, .int a1, .int a2].toArray below meth c H locs cells slots (MQ below (p_Qr D cy post A) [.ref a0, .int a1, .int a2].toArray s mc ms A) (F0 m 10 ls []) := by
      intro S bc bs l0 l1 l2 hf H locs ls cells slots hH hl hB
      refine lv_aload_n hx hb dJ7_copyOfRange_39247_10 rfl (lv_at hl 0 rfl) ?_
      refine lv_iload_n hx hb dJ7_copyOfRange_39247_11 rfl (lv_at hl 1 rfl) ?_
      refine lv_iload_n hx hb dJ7_copyOfRange_39247_12 rfl (lv_at hl 2 rfl) ?_
      obtain ⟨mc2, ms2, hm1, hs1, hf⟩ := hf
      refine q_backRB X hH hB hm1 hs1 (q_runS [.ref l0, .int l1, .int l2] [] X hH hl (c_J7_copyOfRangeByte_39247 l D cy G X.2.2.2.1 S l0 l1 l2 mc2 ms2 _ _ hf) mf_J7_copyOfRangeByte_39247 tw_1268 tw_1267 ⟨Nat.le_of_ble_eq_true rfl, Nat.le_of_ble_eq_true rfl⟩ rfl (Nat.le_of_ble_eq_true rfl) dJ7_copyOfRange_39247_13 ⟨Nat.le_trans (Nat.add_le_add_left hm1 _) hB.1, Nat.le_trans (Nat.add_le_add_left hs1 _) hB.2⟩) (fun v3 S1 hf H locs cells slots hH hB => ?_)
      exact q_retR X hH hr (Or.inr ⟨_, rfl⟩) hlk hf (Nat.le_trans (Nat.le_add_right _ _) hB.1) (Nat.le_trans (Nat.le_add_right _ _) hB.2) dJ7_copyOfRange_39247_16
    refine lv_iload_n hx hb dJ7_copyOfRange_39247_0 rfl (lv_at hl 1 rfl) ?_
    refine lv_if_ne (tgt := 10) hx hb dJ7_copyOfRange_39247_1 (by decide) (fun c1 => ?_) (fun c1 => ?_)
    · have hf := (if_neg c1).mp hf
      exact hJ10 S bc bs a0 a1 a2 hf H locs ls cells slots hH hl hB
    · have hf := (if_pos c1).mp hf
      refine lv_iload_n hx hb dJ7_copyOfRange_39247_4 rfl (lv_at hl 2 rfl) ?_
      refine lv_aload_n hx hb dJ7_copyOfRange_39247_5 rfl (lv_at hl 0 rfl) ?_
      refine q_alen X hH hf dJ7_copyOfRange_39247_6 (fun v2 hf => ?_)
      refine lv_icmp_eq (tgt := 17) hx hb dJ7_copyOfRange_39247_7 (by decide) (fun c3 => ?_) (fun c3 => ?_)
      · have hf := (if_pos c3).mp hf
        refine lv_aload_n hx hb dJ7_copyOfRange_39247_17 rfl (lv_at hl 0 rfl) ?_
        refine q_cloneB X hH hl hB hf tw_693 tw_694 tw_695 tw_696 ((hGE _ _ _ X.2.2.2.2).1 _ (List.mem_of_getElem? (i := 8) rfl)) ⟨Nat.le_of_ble_eq_true rfl, Nat.le_of_ble_eq_true rfl⟩ (Nat.le_of_ble_eq_true rfl) dJ7_copyOfRange_39247_18 (fun q4 S5 bc6 bs7 hf H locs cells slots hH hB => ?_)
        refine q_castB X hH hf tw_699 dJ7_copyOfRange_39247_21 (fun hf => ?_)
        exact q_retR X hH hr (Or.inr ⟨_, rfl⟩) hlk hf (Nat.le_trans (Nat.le_add_right _ _) hB.1) (Nat.le_trans (Nat.le_add_right _ _) hB.2) dJ7_copyOfRange_39247_24
      · have hf := (if_neg c3).mp hf
        exact hJ10 S bc bs a0 a1 a2 hf H locs ls cells slots hH hl hB
  exact main s.heap [] ls 0 0 mc ms hf hH hl ⟨by omega, by omega⟩
-- J1_charAt_3b067_p
def f_J1_charAt_3b067_p (S : PS) (a0 : Nat) (a1 : Int32) (post : Int32 → PS → Prop) : Prop :=
  lE S a0 fun v1 => (
  f_J0_checkIndex_df160 S a1 v1 fun S2 => (
  aI S2 a0 1 a1 fun v4 => (
  nZ .char (((v4 &&& 255).toUInt32 % 65536).toInt32) (post (((v4 &&& 255).toUInt32 % 65536).toInt32) S2))))
abbrev rm_J1_charAt_3b067_p : Room := { frames := 2, cells := 0, slots := 0, locals := 43 }
set_option maxHeartbeats 4000000 in
set_option maxRecDepth 100000 in
theorem c_J1_charAt_3b067_p (l : Launch) (D : va_G) (cy : Nat → ClassId) (G : p_GT) (hG : p_ok G) (hGF : ∀ (A : Nat → Prop) (U : State) (H : Heap), G A U H → gF A U H) (S : PS) (a0 : Nat) (a1 : Int32) (post : Int32 → PS → Prop) (sz : Nat) (hf : f_J1_charAt_3b067_p S a0 a1 post) : p_Mi l D cy G S sz yJ1_charAt_3b067 (Cond.code yJ1_charAt_3b067 cJ1_charAt_3b067 2 (some .char) :: wG) rm_J1_charAt_3b067_p [.ref a0, .int a1] 0 0 post := by
  refine q_start hG (Qc := fun A => va_Qi post (p_Post D cy A) A) mf_J1_charAt_3b067 (Nat.le_of_ble_eq_true rfl) (own := RJ1) rfl ?_
  intro p e s m below meth c A X hr hlk hnm ls hl hH
  have hx := X.1.1
  have hb := X.1.2.1
  replace hl : lv_has ls 2 [(0, .ref a0), (1, .int a1)] := hl
  obtain ⟨H, hHe⟩ : ∃ H, H = s.heap := ⟨_, rfl⟩
  obtain ⟨locs, hlo⟩ : ∃ locs : List Loc, locs = [] := ⟨_, rfl⟩
  rw [← hHe, ← hlo] at hH
  show W p l e rm_J1_charAt_3b067_p s m [.ref a0, .int a1].toArray below meth c s.heap [] 0 0 _ _
  rw [← hHe, ← hlo]
  refine lv_iload_n hx hb dJ1_charAt_3b067_0 rfl (lv_at hl 1 rfl) ?_
  refine lv_aload_n hx hb dJ1_charAt_3b067_1 rfl (lv_at hl 0 rfl) ?_
  refine q_alen X hH hf dJ1_charAt_3b067_2 (fun v1 hf => ?_)
  refine q_backV0 X hH (q_runS [.int a1, .int v1] [] X hH hl (c_J0_checkIndex_df160 l D cy G X.2.2.2.1 hGF S a1 v1 _ _ hf) mf_J0_checkIndex_df160 tw_784 tw_1201 ⟨Nat.le_of_ble_eq_true rfl, Nat.le_of_ble_eq_true rfl⟩ rfl (Nat.le_of_ble_eq_true rfl) dJ1_charAt_3b067_3 ⟨Nat.le_of_ble_eq_true rfl, Nat.le_of_ble_eq_true rfl⟩) (fun S2 hf H locs hH => ?_)
  refine lv_aload_n hx hb dJ1_charAt_3b067_6 rfl (lv_at hl 0 rfl) ?_
  refine lv_iload_n hx hb dJ1_charAt_3b067_7 rfl (lv_at hl 1 rfl) ?_
  refine q_bald X hH hf dJ1_charAt_3b067_8 (fun v4 hf => ?_)
  refine lv_sipush (v := 255) hx hb dJ1_charAt_3b067_9 (by decide) ?_
  refine lv_iand hx hb dJ1_charAt_3b067_12 ?_
  refine lv_i2c (v := ((v4 &&& 255).toUInt32 % 65536).toInt32) hx hb dJ1_charAt_3b067_13 rfl ?_
  exact q_retZ X hH hr hlk hf (Nat.zero_le _) (Nat.zero_le _) dJ1_charAt_3b067_14
-- J0_length_8abf5_u
def f_J0_length_8abf5_u (adK : Nat → Nat) (S : PS) (a0 : Nat) (post : Int32 → PS → Prop) : Prop := (sK adK a0 fun _ => f_J0_length_8abf5 adK S a0 post) ∨ isO S a0 0 (f_J0_length_8abf5_p S a0 post)
theorem u_J0_length_8abf5 {adK : Nat → Nat} {S : PS} {a0 : Nat} {post : Int32 → PS → Prop} {R : Prop} (h : f_J0_length_8abf5_u adK S a0 post) (h1 : (sK adK a0 fun _ => f_J0_length_8abf5 adK S a0 post) → R) (h2 : isO S a0 0 (f_J0_length_8abf5_p S a0 post) → R) : R := Or.elim h h1 h2
-- J5_ensureCapacityInternal_d00df
def f_J5_ensureCapacityInternal_d00df (S : PS) (a0 : Nat) (a1 : Int32) (bc bs : Nat) (post : PS → Prop) : Prop :=
  gR S a0 1 0 fun v1 => (
  lE S v1 fun v2 => (
  gI S a0 1 1 fun v3 => (
  if (a1 - (v2 >>> (v3 &&& 31))) ≤ 0 then
    post S
  else
    gR S a0 1 0 fun v5 => (
    isO S a0 1 (
    f_J5_newCapacity_0f7a4 S a0 a1 fun v7 S6 => (
    gI S6 a0 1 1 fun v8 => (
    ∃ mc10 ms10 : Nat, mc10 ≤ bc ∧ ms10 ≤ bs ∧ (f_J7_copyOf_9075b S6 v5 (v7 <<< (v8 &&& 31)) mc10 ms10 fun v11 S9 => (
    pV S9 a0 1 0 (.ref v11) fun S12 => (
    post S12))))))))))
abbrev rm_J5_ensureCapacityInternal_d00df (mc ms : Nat) : Room := { frames := 3, cells := mc, slots := ms, locals := 82 }
set_option maxHeartbeats 4000000 in
set_option maxRecDepth 100000 in
theorem c_J5_ensureCapacityInternal_d00df (l : Launch) (D : va_G) (cy : Nat → ClassId) (G : p_GT) (hG : p_ok G) (hGU : ∀ (A : Nat → Prop) (U : State) (H : Heap), G A U H → gU A U H) (S : PS) (a0 : Nat) (a1 : Int32) (mc ms : Nat) (post : PS → Prop) (sz : Nat) (hf : f_J5_ensureCapacityInternal_d00df S a0 a1 mc ms post) : p_Mv l D cy G S sz yJ5_ensureCapacityInternal_d00df (Cond.code yJ5_ensureCapacityInternal_d00df cJ5_ensureCapacityInternal_d00df 3 none :: wG) (rm_J5_ensureCapacityInternal_d00df mc ms) [.ref a0, .int a1] mc ms post := by
  refine q_start hG (Qc := fun A => va_Qv post (p_Post D cy A) A) mf_J5_ensureCapacityInternal_d00df (Nat.le_of_ble_eq_true rfl) (own := RJ5) rfl ?_
  intro p e s m below meth c A X hr hlk hnm ls hl hH
  have hx := X.1.1
  have hb := X.1.2.1
  replace hl : lv_has ls 3 [(0, .ref a0), (1, .int a1)] := hl
  have main : ∀ (H : Heap) (locs : List Loc) (ls : Array Slot) (cells slots bc bs : Nat), f_J5_ensureCapacityInternal_d00df S a0 a1 bc bs post → p_H D cy S A s H locs → lv_has ls 3 [(0, .ref a0), (1, .int a1)] → cells + bc ≤ mc ∧ slots + bs ≤ ms → W p l e (rm_J5_ensureCapacityInternal_d00df mc ms) s m [.ref a0, .int a1].toArray below meth c H locs cells slots (MQ below (va_Qv post (p_Post D cy A) A) [.ref a0, .int a1].toArray s mc ms A) (F0 m 0 ls []) := by
    intro H locs ls cells slots bc bs hf hH hl hB
    refine lv_aload_n hx hb dJ5_ensureCapacityInternal_d00df_0 rfl (lv_at hl 0 rfl) ?_
    refine q_getR (T := TJ4) (N := 4) X hH hf iw_J4 rfl (by decide) tw_195 (fun _ h => h) dJ5_ensureCapacityInternal_d00df_1 (fun v1 hf => ?_)
    refine q_alen X hH hf dJ5_ensureCapacityInternal_d00df_4 (fun v2 hf => ?_)
    refine lv_aload_n hx hb dJ5_ensureCapacityInternal_d00df_5 rfl (lv_at hl 0 rfl) ?_
    refine q_getI (T := TJ4) (N := 4) X hH hf iw_J4 rfl (by decide) tw_196 (fun _ h => h) dJ5_ensureCapacityInternal_d00df_6 (fun v3 hf => ?_)
    refine lv_ishr hx hb dJ5_ensureCapacityInternal_d00df_9 ?_
    refine lv_istore_n (lv' := [(2, .int (v2 >>> (v3 &&& 31))), (0, .ref a0), (1, .int a1)]) hx hb dJ5_ensureCapacityInternal_d00df_10 rfl hl (by decide) rfl (fun ls hl => ?_)
    refine lv_iload_n hx hb dJ5_ensureCapacityInternal_d00df_11 rfl (lv_at hl 2 rfl) ?_
    refine lv_iload_n hx hb dJ5_ensureCapacityInternal_d00df_12 rfl (lv_at hl 0 rfl) ?_
    refine lv_isub hx hb dJ5_ensureCapacityInternal_d00df_13 ?_
    refine lv_if_le (tgt := 38) hx hb dJ5_ensureCapacityInternal_d00df_14 (by decide) (fun c4 => ?_) (fun c4 => ?_)
    · have hf := (if_pos c4).mp hf
      exact q_retV X hH hr hlk hf (Nat.le_trans (Nat.le_add_right _ _) hB.1) (Nat.le_trans (Nat.le_add_right _ _) hB.2) dJ5_ensureCapacityInternal_d00df_38
    · have hf := (if_neg c4).mp hf
      refine lv_aload_n hx hb dJ5_ensureCapacityInternal_d00df_17 rfl (lv_at hl 1 rfl) ?_
      refine lv_aload_n hx hb dJ5_ensureCapacityInternal_d00df_18 rfl (lv_at hl 1 rfl) ?_
      refine q_getR (T := TJ4) (N := 4) X hH hf iw_J4 rfl (by decide) tw_195 (fun _ h => h) dJ5_ensureCapacityInternal_d00df_19 (fun v5 hf => ?_)
      refine lv_aload_n hx hb dJ5_ensureCapacityInternal_d00df_22 rfl (lv_at hl 1 rfl) ?_
      refine lv_iload_n hx hb dJ5_ensureCapacityInternal_d00df_23 rfl (lv_at hl 2 rfl) ?_
      obtain ⟨hb1, hb2, hf⟩ := hf
      refine q_backI0 X hH (q_runU [.int a1] [.ref v5, .ref a0] X hH hl (c_J5_newCapacity_0f7a4 l D cy G X.2.2.2.1 S a0 a1 _ _ hf) mf_J5_newCapacity_0f7a4 ⟨tw_679, tw_1302⟩ (va_Nw.use rfl (hGU _ _ _ X.2.2.2.2).2.1) tw_677 ⟨Nat.le_of_ble_eq_true rfl, Nat.le_of_ble_eq_true rfl⟩ hb1 hb2 rfl (Nat.le_of_ble_eq_true rfl) dJ5_ensureCapacityInternal_d00df_24 ⟨Nat.le_trans (Nat.le_add_right _ _) hB.1, Nat.le_trans (Nat.le_add_right _ _) hB.2⟩) (fun v7 S6 hf H locs hH => ?_)
      refine lv_aload_n hx hb dJ5_ensureCapacityInternal_d00df_27 rfl (lv_at hl 1 rfl) ?_
      refine q_getI (T := TJ4) (N := 4) X hH hf iw_J4 rfl (by decide) tw_196 (fun _ h => h) dJ5_ensureCapacityInternal_d00df_28 (fun v8 hf => ?_)
      refine lv_ishl hx hb dJ5_ensureCapacityInternal_d00df_31 ?_
      obtain ⟨mc10, ms10, hm1, hs1, hf⟩ := hf
      refine q_backRB X hH hB hm1 hs1 (q_runS [.ref v5, .int (v7 <<< (v8 &&& 31))] [.ref a0] X hH hl (c_J7_copyOf_9075b l D cy G X.2.2.2.1 S6 v5 (v7 <<< (v8 &&& 31)) mc10 ms10 _ _ hf) mf_J7_copyOf_9075b tw_691 tw_690 ⟨Nat.le_of_ble_eq_true rfl, Nat.le_of_ble_eq_true rfl⟩ rfl (Nat.le_of_ble_eq_true rfl) dJ5_ensureCapacityInternal_d00df_32 ⟨Nat.le_trans (Nat.add_le_add_left hm1 _) hB.1, Nat.le_trans (Nat.add_le_add_left hs1 _) hB.2⟩) (fun v11 S9 hf H locs cells slots hH hB => ?_)
      refine q_putV (T := TJ4) (N := 4) (ty0 := tyJ4) (ty := tyJ4 0) X hH hf iw_J4 tyJ4_ok nmJ4 rfl (by decide) tw_195 (fun _ h => h) rfl (tyJ4_ok 0 (by decide)) rfl rfl dJ5_ensureCapacityInternal_d00df_35 (fun S12 hf H locs hH => ?_)
      exact q_retV X hH hr hlk hf (Nat.le_trans (Nat.le_add_right _ _) hB.1) (Nat.le_trans (Nat.le_add_right _ _) hB.2) dJ5_ensureCapacityInternal_d00df_38
  exact main s.heap [] ls 0 0 mc ms hf hH hl ⟨by omega, by omega⟩
-- J5_setLength_d00df
def f_J5_setLength_d00df_J76 (post : PS → Prop) (S : PS) (bc bs : Nat) (l0 : Nat) (l1 : Int32) : Prop :=
  pV S l0 1 3 (.int l1) fun S1 => (
  post S1)
def f_J5_setLength_d00df (S : PS) (a0 : Nat) (a1 : Int32) (bc bs : Nat) (post : PS → Prop) : Prop :=
  if 0 ≤ a1 then
    isO S a0 1 (
    ∃ mc3 ms3 : Nat, mc3 ≤ bc ∧ ms3 ≤ bs ∧ (f_J5_ensureCapacityInternal_d00df S a0 a1 mc3 ms3 fun S2 => (
    gI S2 a0 1 3 fun v5 => (
    if a1 ≤ v5 then
      gI S2 a0 1 3 fun v7 => (
      if v7 ≤ a1 then
        f_J5_setLength_d00df_J76 post S2 (bc - mc3) (bs - ms3) a0 a1
      else
        pV S2 a0 1 2 (.int 1) fun S9 => (
        f_J5_setLength_d00df_J76 post S9 (bc - mc3) (bs - ms3) a0 a1))
    else
      False))))
  else
    False
abbrev rm_J5_setLength_d00df (mc ms : Nat) : Room := { frames := 4, cells := mc, slots := ms, locals := 104 }
set_option maxHeartbeats 4000000 in
set_option maxRecDepth 100000 in
theorem c_J5_setLength_d00df (l : Launch) (D : va_G) (cy : Nat → ClassId) (G : p_GT) (hG : p_ok G) (hGU : ∀ (A : Nat → Prop) (U : State) (H : Heap), G A U H → gU A U H) (S : PS) (a0 : Nat) (a1 : Int32) (mc ms : Nat) (post : PS → Prop) (sz : Nat) (hf : f_J5_setLength_d00df S a0 a1 mc ms post) : p_Mv l D cy G S sz yJ5_setLength_d00df (Cond.code yJ5_setLength_d00df cJ5_setLength_d00df 2 none :: wG) (rm_J5_setLength_d00df mc ms) [.ref a0, .int a1] mc ms post := by
  refine q_start hG (Qc := fun A => va_Qv post (p_Post D cy A) A) mf_J5_setLength_d00df (Nat.le_of_ble_eq_true rfl) (own := RJ5) rfl ?_
  intro p e s m below meth c A X hr hlk hnm ls hl hH
  have hx := X.1.1
  have hb := X.1.2.1
  replace hl : lv_has ls 2 [(0, .ref a0), (1, .int a1)] := hl
  have main : ∀ (H : Heap) (locs : List Loc) (ls : Array Slot) (cells slots bc bs : Nat), f_J5_setLength_d00df S a0 a1 bc bs post → p_H D cy S A s H locs → lv_has ls 2 [(0, .ref a0), (1, .int a1)] → cells + bc ≤ mc ∧ slots + bs ≤ ms → W p l e (rm_J5_setLength_d00df mc ms) s m [.ref a0, .int a1].toArray below meth c H locs cells slots (MQ below (va_Qv post (p_Post D cy A) A) [.ref a0, .int a1].toArray s mc ms A) (F0 m 0 ls []) := by
    intro H locs ls cells slots bc bs hf hH hl hB
    have hJ76 : ∀ (S : PS) (bc bs : Nat) (l0 : Nat) (l1 : Int32), f_J5_setLength_d00df_J76 post S bc bs l0 l1 → ∀ (H : Heap) (locs : List Loc) (ls : Array Slot) (cells slots : Nat), p_H D cy S A s H locs → lv_has ls 2 [(0, .ref l0), (1, .int l1)] → cells + bc ≤ mc ∧ slots + bs ≤ ms → W p l e (rm_J5_setLength_d00df mc ms) s m [.ref a0, .int a1].toArray below meth c H locs cells slots (MQ below (va_Qv post (p_Post D cy A) A) [.ref a0, .int a1].toArray s mc ms A) (F0 m 76 ls []) := by
      intro S bc bs l0 l1 hf H locs ls cells slots hH hl hB
      refine lv_aload_n hx hb dJ5_setLength_d00df_76 rfl (lv_at hl 0 rfl) ?_
      refine lv_iload_n hx hb dJ5_setLength_d00df_77 rfl (lv_at hl 1 rfl) ?_
      refine q_putV (T := TJ4) (N := 4) (ty0 := tyJ4) (ty := tyJ4 3) X hH hf iw_J4 tyJ4_ok nmJ4 rfl (by decide) tw_199 (fun _ h => h) rfl (tyJ4_ok 3 (by decide)) rfl rfl dJ5_setLength_d00df_78 (fun S1 hf H locs hH => ?_)
      exact q_retV X hH hr hlk hf (Nat.le_trans (Nat.le_add_right _ _) hB.1) (Nat.le_trans (Nat.le_add_right _ _) hB.2) dJ5_setLength_d00df_81
    refine lv_iload_n hx hb dJ5_setLength_d00df_0 rfl (lv_at hl 1 rfl) ?_
    refine lv_if_ge (tgt := 13) hx hb dJ5_setLength_d00df_1 (by decide) (fun c1 => ?_) (fun c1 => ?_)
    · have hf := (if_pos c1).mp hf
      refine lv_aload_n hx hb dJ5_setLength_d00df_13 rfl (lv_at hl 0 rfl) ?_
      refine lv_iload_n hx hb dJ5_setLength_d00df_14 rfl (lv_at hl 1 rfl) ?_
      obtain ⟨hb1, hb2, hf⟩ := hf
      obtain ⟨mc3, ms3, hm1, hs1, hf⟩ := hf
      refine q_backVB X hH hB hm1 hs1 (q_runU [.int a1] [] X hH hl (c_J5_ensureCapacityInternal_d00df l D cy G X.2.2.2.1 hGU S a0 a1 mc3 ms3 _ _ hf) mf_J5_ensureCapacityInternal_d00df ⟨tw_675, tw_1301⟩ (va_Nw.use rfl (hGU _ _ _ X.2.2.2.2).1) tw_673 ⟨Nat.le_of_ble_eq_true rfl, Nat.le_of_ble_eq_true rfl⟩ hb1 hb2 rfl (Nat.le_of_ble_eq_true rfl) dJ5_setLength_d00df_15 ⟨Nat.le_trans (Nat.add_le_add_left hm1 _) hB.1, Nat.le_trans (Nat.add_le_add_left hs1 _) hB.2⟩) (fun S2 hf H locs cells slots hH hB => ?_)
      refine lv_aload_n hx hb dJ5_setLength_d00df_18 rfl (lv_at hl 0 rfl) ?_
      refine q_getI (T := TJ4) (N := 4) X hH hf iw_J4 rfl (by decide) tw_199 (fun _ h => h) dJ5_setLength_d00df_19 (fun v5 hf => ?_)
      refine lv_iload_n hx hb dJ5_setLength_d00df_22 rfl (lv_at hl 1 rfl) ?_
      refine lv_icmp_ge (tgt := 63) hx hb dJ5_setLength_d00df_23 (by decide) (fun c6 => ?_) (fun c6 => ?_)
      · have hf := (if_pos c6).mp hf
        refine lv_aload_n hx hb dJ5_setLength_d00df_63 rfl (lv_at hl 0 rfl) ?_
        refine q_getI (T := TJ4) (N := 4) X hH hf iw_J4 rfl (by decide) tw_199 (fun _ h => h) dJ5_setLength_d00df_64 (fun v7 hf => ?_)
        refine lv_iload_n hx hb dJ5_setLength_d00df_67 rfl (lv_at hl 1 rfl) ?_
        refine lv_icmp_le (tgt := 76) hx hb dJ5_setLength_d00df_68 (by decide) (fun c8 => ?_) (fun c8 => ?_)
        · have hf := (if_pos c8).mp hf
          exact hJ76 S2 (bc - mc3) (bs - ms3) a0 a1 hf H locs ls cells slots hH hl hB
        · have hf := (if_neg c8).mp hf
          refine lv_aload_n hx hb dJ5_setLength_d00df_71 rfl (lv_at hl 0 rfl) ?_
          refine lv_iconst (v := 1) hx hb dJ5_setLength_d00df_72 (by decide) ?_
          refine q_putV (T := TJ4) (N := 4) (ty0 := tyJ4) (ty := tyJ4 2) X hH hf iw_J4 tyJ4_ok nmJ4 rfl (by decide) tw_197 (fun _ h => h) rfl (tyJ4_ok 2 (by decide)) rfl rfl dJ5_setLength_d00df_73 (fun S9 hf H locs hH => ?_)
          exact hJ76 S9 (bc - mc3) (bs - ms3) a0 a1 hf H locs ls cells slots hH hl hB
      · have hf := (if_neg c6).mp hf
        exact hf.elim
    · have hf := (if_neg c1).mp hf
      exact hf.elim
  exact main s.heap [] ls 0 0 mc ms hf hH hl ⟨by omega, by omega⟩
-- J5_charAt_5068e
def f_J5_charAt_5068e (S : PS) (a0 : Nat) (a1 : Int32) (post : Int32 → PS → Prop) : Prop :=
  gI S a0 1 1 fun v1 => (
  gR S a0 1 0 fun v2 => (
  gI S a0 1 3 fun v3 => (
  lE S v2 fun v4 => (
  f_J0_checkIndex_df160 S a1 (if (v4 >>> (v1 &&& 31)) < v3 then (v4 >>> (v1 &&& 31)) else v3) fun S5 => (
  if v1 = 0 then
    aI S5 v2 1 a1 fun v8 => (
    nZ .char (((v8 &&& 255).toUInt32 % 65536).toInt32) (post (((v8 &&& 255).toUInt32 % 65536).toInt32) S5))
  else
    False)))))
abbrev rm_J5_charAt_5068e : Room := { frames := 2, cells := 0, slots := 0, locals := 43 }
set_option maxHeartbeats 4000000 in
set_option maxRecDepth 100000 in
theorem c_J5_charAt_5068e (l : Launch) (D : va_G) (cy : Nat → ClassId) (G : p_GT) (hG : p_ok G) (hGF : ∀ (A : Nat → Prop) (U : State) (H : Heap), G A U H → gF A U H) (S : PS) (a0 : Nat) (a1 : Int32) (post : Int32 → PS → Prop) (sz : Nat) (hf : f_J5_charAt_5068e S a0 a1 post) : p_Mi l D cy G S sz yJ5_charAt_5068e (Cond.code yJ5_charAt_5068e cJ5_charAt_5068e 5 (some .char) :: wG) rm_J5_charAt_5068e [.ref a0, .int a1] 0 0 post := by
  refine q_start hG (Qc := fun A => va_Qi post (p_Post D cy A) A) mf_J5_charAt_5068e (Nat.le_of_ble_eq_true rfl) (own := RJ5) rfl ?_
  intro p e s m below meth c A X hr hlk hnm ls hl hH
  have hx := X.1.1
  have hb := X.1.2.1
  replace hl : lv_has ls 5 [(0, .ref a0), (1, .int a1)] := hl
  obtain ⟨H, hHe⟩ : ∃ H, H = s.heap := ⟨_, rfl⟩
  obtain ⟨locs, hlo⟩ : ∃ locs : List Loc, locs = [] := ⟨_, rfl⟩
  rw [← hHe, ← hlo] at hH
  show W p l e rm_J5_charAt_5068e s m [.ref a0, .int a1].toArray below meth c s.heap [] 0 0 _ _
  rw [← hHe, ← hlo]
  refine lv_aload_n hx hb dJ5_charAt_5068e_0 rfl (lv_at hl 0 rfl) ?_
  refine q_getI (T := TJ4) (N := 4) X hH hf iw_J4 rfl (by decide) tw_196 (fun _ h => h) dJ5_charAt_5068e_1 (fun v1 hf => ?_)
  refine lv_istore_n (lv' := [(2, .int v1), (0, .ref a0), (1, .int a1)]) hx hb dJ5_charAt_5068e_4 rfl hl (by decide) rfl (fun ls hl => ?_)
  refine lv_aload_n hx hb dJ5_charAt_5068e_5 rfl (lv_at hl 1 rfl) ?_
  refine q_getR (T := TJ4) (N := 4) X hH hf iw_J4 rfl (by decide) tw_195 (fun _ h => h) dJ5_charAt_5068e_6 (fun v2 hf => ?_)
  refine lv_astore_n (lv' := [(3, .ref v2), (2, .int v1), (0, .ref a0), (1, .int a1)]) hx hb dJ5_charAt_5068e_9 rfl hl (by decide) rfl (fun ls hl => ?_)
  refine lv_aload_n hx hb dJ5_charAt_5068e_10 rfl (lv_at hl 2 rfl) ?_
  refine q_getI (T := TJ4) (N := 4) X hH hf iw_J4 rfl (by decide) tw_199 (fun _ h => h) dJ5_charAt_5068e_11 (fun v3 hf => ?_)
  refine lv_aload_n hx hb dJ5_charAt_5068e_14 rfl (lv_at hl 0 rfl) ?_
  refine q_alen X hH hf dJ5_charAt_5068e_15 (fun v4 hf => ?_)
  refine lv_iload_n hx hb dJ5_charAt_5068e_16 rfl (lv_at hl 1 rfl) ?_
  refine lv_ishr hx hb dJ5_charAt_5068e_17 ?_
  refine q_mmin X hl tw_1185 tw_496 tw_47 tw_497 ⟨Nat.le_of_ble_eq_true rfl, Nat.le_of_ble_eq_true rfl⟩ (Nat.le_of_ble_eq_true rfl) (Nat.zero_le _) (Nat.zero_le _) dJ5_charAt_5068e_18 ?_
  refine lv_istore (lv' := [(4, .int ((if (v4 >>> (v1 &&& 31)) < v3 then (v4 >>> (v1 &&& 31)) else v3))), (3, .ref v2), (2, .int v1), (0, .ref a0), (1, .int a1)]) hx hb dJ5_charAt_5068e_21 hl (by decide) rfl (fun ls hl => ?_)
  refine lv_iload_n hx hb dJ5_charAt_5068e_23 rfl (lv_at hl 4 rfl) ?_
  refine lv_iload hx hb dJ5_charAt_5068e_24 (lv_at hl 0 rfl) ?_
  refine q_backV0 X hH (q_runS [.int a1, .int ((if (v4 >>> (v1 &&& 31)) < v3 then (v4 >>> (v1 &&& 31)) else v3))] [] X hH hl (c_J0_checkIndex_df160 l D cy G X.2.2.2.1 hGF S a1 (if (v4 >>> (v1 &&& 31)) < v3 then (v4 >>> (v1 &&& 31)) else v3) _ _ hf) mf_J0_checkIndex_df160 tw_784 tw_1186 ⟨Nat.le_of_ble_eq_true rfl, Nat.le_of_ble_eq_true rfl⟩ rfl (Nat.le_of_ble_eq_true rfl) dJ5_charAt_5068e_26 ⟨Nat.le_of_ble_eq_true rfl, Nat.le_of_ble_eq_true rfl⟩) (fun S5 hf H locs hH => ?_)
  refine lv_iload_n hx hb dJ5_charAt_5068e_29 rfl (lv_at hl 2 rfl) ?_
  refine lv_if_ne (tgt := 42) hx hb dJ5_charAt_5068e_30 (by decide) (fun c7 => ?_) (fun c7 => ?_)
  · have hf := (if_neg c7).mp hf
    exact hf.elim
  · have hf := (if_pos c7).mp hf
    refine lv_aload_n hx hb dJ5_charAt_5068e_33 rfl (lv_at hl 1 rfl) ?_
    refine lv_iload_n hx hb dJ5_charAt_5068e_34 rfl (lv_at hl 4 rfl) ?_
    refine q_bald X hH hf dJ5_charAt_5068e_35 (fun v8 hf => ?_)
    refine lv_sipush (v := 255) hx hb dJ5_charAt_5068e_36 (by decide) ?_
    refine lv_iand hx hb dJ5_charAt_5068e_39 ?_
    refine lv_i2c (v := ((v8 &&& 255).toUInt32 % 65536).toInt32) hx hb dJ5_charAt_5068e_40 rfl ?_
    exact q_retZ X hH hr hlk hf (Nat.zero_le _) (Nat.zero_le _) dJ5_charAt_5068e_41
-- J5_append_3fe6f
def f_J5_append_3fe6f_J45 (post : Nat → PS → Prop) (S : PS) (bc bs : Nat) (l0 : Nat) : Prop :=
  False
def f_J5_append_3fe6f (S : PS) (a0 : Nat) (a1 : Int32) (bc bs : Nat) (post : Nat → PS → Prop) : Prop :=
  gI S a0 1 3 fun v1 => (
  isO S a0 1 (
  ∃ mc3 ms3 : Nat, mc3 ≤ bc ∧ ms3 ≤ bs ∧ (f_J5_ensureCapacityInternal_d00df S a0 (v1 + 1) mc3 ms3 fun S2 => (
  isO S2 a0 1 (
  f_J5_isLatin1_aae02 S2 a0 fun v6 S5 => (
  if v6 = 0 then
    f_J5_append_3fe6f_J45 post S5 (bc - mc3) (bs - ms3) a0
  else
    f_J1_canEncode_fc78d S5 a1 fun v9 S8 => (
    if v9 = 0 then
      f_J5_append_3fe6f_J45 post S8 (bc - mc3) (bs - ms3) a0
    else
      gR S8 a0 1 0 fun v11 => (
      gI S8 a0 1 3 fun v12 => (
      pV S8 a0 1 3 (.int (v12 + 1)) fun S13 => (
      sI S13 v11 1 v12 (vp_nar .byte ((a1).toInt8.toInt32)) fun S14 => (
      post a0 S14)))))))))))
abbrev rm_J5_append_3fe6f (mc ms : Nat) : Room := { frames := 4, cells := mc, slots := ms, locals := 104 }
set_option maxHeartbeats 4000000 in
set_option maxRecDepth 100000 in
theorem c_J5_append_3fe6f (l : Launch) (D : va_G) (cy : Nat → ClassId) (G : p_GT) (hG : p_ok G) (hGC : ∀ (A : Nat → Prop) (U : State) (H : Heap), G A U H → gC A U H) (hGU : ∀ (A : Nat → Prop) (U : State) (H : Heap), G A U H → gU A U H) (S : PS) (a0 : Nat) (a1 : Int32) (mc ms : Nat) (post : Nat → PS → Prop) (sz : Nat) (hf : f_J5_append_3fe6f S a0 a1 mc ms post) : p_Mr l D cy G S sz yJ5_append_3fe6f (Cond.code yJ5_append_3fe6f cJ5_append_3fe6f 2 (some (.object "java/lang/AbstractStringBuilder")) :: wG) (rm_J5_append_3fe6f mc ms) [.ref a0, .int a1] mc ms post := by
  refine q_start hG (Qc := fun A => p_Qr D cy post A) mf_J5_append_3fe6f (Nat.le_of_ble_eq_true rfl) (own := RJ5) rfl ?_
  intro p e s m below meth c A X hr hlk hnm ls hl hH
  have hx := X.1.1
  have hb := X.1.2.1
  replace hl : lv_has ls 2 [(0, .ref a0), (1, .int a1)] := hl
  have main : ∀ (H : Heap) (locs : List Loc) (ls : Array Slot) (cells slots bc bs : Nat), f_J5_append_3fe6f S a0 a1 bc bs post → p_H D cy S A s H locs → lv_has ls 2 [(0, .ref a0), (1, .int a1)] → cells + bc ≤ mc ∧ slots + bs ≤ ms → W p l e (rm_J5_append_3fe6f mc ms) s m [.ref a0, .int a1].toArray below meth c H locs cells slots (MQ below (p_Qr D cy post A) [.ref a0, .int a1].toArray s mc ms A) (F0 m 0 ls []) := by
    intro H locs ls cells slots bc bs hf hH hl hB
    have hJ45 : ∀ (S : PS) (bc bs : Nat) (l0 : Nat), f_J5_append_3fe6f_J45 post S bc bs l0 → ∀ (H : Heap) (locs : List Loc) (ls : Array Slot) (cells slots : Nat), p_H D cy S A s H locs → lv_has ls 2 [(0, .ref l0)] → cells + bc ≤ mc ∧ slots + bs ≤ ms → W p l e (rm_J5_append_3fe6f mc ms) s m [.ref a0, .int a1].toArray below meth c H locs cells slots (MQ below (p_Qr D cy post A) [.ref a0, .int a1].toArray s mc ms A) (F0 m 45 ls []) := by
      intro S bc bs l0 hf H locs ls cells slots hH hl hB
      exact hf.elim
    refine lv_aload_n hx hb dJ5_append_3fe6f_0 rfl (lv_at hl 0 rfl) ?_
    refine lv_aload_n hx hb dJ5_append_3fe6f_1 rfl (lv_at hl 0 rfl) ?_
    refine q_getI (T := TJ4) (N := 4) X hH hf iw_J4 rfl (by decide) tw_199 (fun _ h => h) dJ5_append_3fe6f_2 (fun v1 hf => ?_)
    refine lv_iconst (v := 1) hx hb dJ5_append_3fe6f_5 (by decide) ?_
    refine lv_iadd hx hb dJ5_append_3fe6f_6 ?_
    obtain ⟨hb1, hb2, hf⟩ := hf
    obtain ⟨mc3, ms3, hm1, hs1, hf⟩ := hf
    refine q_backVB X hH hB hm1 hs1 (q_runU [.int (v1 + 1)] [] X hH hl (c_J5_ensureCapacityInternal_d00df l D cy G X.2.2.2.1 hGU S a0 (v1 + 1) mc3 ms3 _ _ hf) mf_J5_ensureCapacityInternal_d00df ⟨tw_675, tw_1301⟩ (va_Nw.use rfl (hGU _ _ _ X.2.2.2.2).1) tw_673 ⟨Nat.le_of_ble_eq_true rfl, Nat.le_of_ble_eq_true rfl⟩ hb1 hb2 rfl (Nat.le_of_ble_eq_true rfl) dJ5_append_3fe6f_7 ⟨Nat.le_trans (Nat.add_le_add_left hm1 _) hB.1, Nat.le_trans (Nat.add_le_add_left hs1 _) hB.2⟩) (fun S2 hf H locs cells slots hH hB => ?_)
    refine lv_aload_n hx hb dJ5_append_3fe6f_10 rfl (lv_at hl 0 rfl) ?_
    obtain ⟨hb1, hb2, hf⟩ := hf
    refine q_backI0 X hH (q_runU [] [] X hH hl (c_J5_isLatin1_aae02 l D cy G X.2.2.2.1 hGC S2 a0 _ _ hf) mf_J5_isLatin1_aae02 ⟨tw_705, tw_706⟩ (X.1.2.2.2.2 _ tw_707) tw_704 ⟨Nat.le_of_ble_eq_true rfl, Nat.le_of_ble_eq_true rfl⟩ hb1 hb2 rfl (Nat.le_of_ble_eq_true rfl) dJ5_append_3fe6f_11 ⟨Nat.le_trans (Nat.le_add_right _ _) hB.1, Nat.le_trans (Nat.le_add_right _ _) hB.2⟩) (fun v6 S5 hf H locs hH => ?_)
    refine lv_if_eq (tgt := 45) hx hb dJ5_append_3fe6f_14 (by decide) (fun c7 => ?_) (fun c7 => ?_)
    · have hf := (if_pos c7).mp hf
      exact hJ45 S5 (bc - mc3) (bs - ms3) a0 hf H locs ls cells slots hH (lv_sub hl [0] rfl) hB
    · have hf := (if_neg c7).mp hf
      refine lv_iload_n hx hb dJ5_append_3fe6f_17 rfl (lv_at hl 1 rfl) ?_
      refine q_backI0 X hH (q_runS [.int a1] [] X hH hl (c_J1_canEncode_fc78d l D cy G X.2.2.2.1 S5 a1 _ _ hf) mf_J1_canEncode_fc78d tw_742 tw_741 ⟨Nat.le_of_ble_eq_true rfl, Nat.le_of_ble_eq_true rfl⟩ rfl (Nat.le_of_ble_eq_true rfl) dJ5_append_3fe6f_18 ⟨Nat.le_trans (Nat.le_add_right _ _) hB.1, Nat.le_trans (Nat.le_add_right _ _) hB.2⟩) (fun v9 S8 hf H locs hH => ?_)
      refine lv_if_eq (tgt := 45) hx hb dJ5_append_3fe6f_21 (by decide) (fun c10 => ?_) (fun c10 => ?_)
      · have hf := (if_pos c10).mp hf
        exact hJ45 S8 (bc - mc3) (bs - ms3) a0 hf H locs ls cells slots hH (lv_sub hl [0] rfl) hB
      · have hf := (if_neg c10).mp hf
        refine lv_aload_n hx hb dJ5_append_3fe6f_24 rfl (lv_at hl 0 rfl) ?_
        refine q_getR (T := TJ4) (N := 4) X hH hf iw_J4 rfl (by decide) tw_195 (fun _ h => h) dJ5_append_3fe6f_25 (fun v11 hf => ?_)
        refine lv_aload_n hx hb dJ5_append_3fe6f_28 rfl (lv_at hl 0 rfl) ?_
        refine lv_dup hx hb dJ5_append_3fe6f_29 rfl ?_
        refine q_getI (T := TJ4) (N := 4) X hH hf iw_J4 rfl (by decide) tw_199 (fun _ h => h) dJ5_append_3fe6f_30 (fun v12 hf => ?_)
        refine lv_dup_x1 hx hb dJ5_append_3fe6f_33 rfl rfl ?_
        refine lv_iconst (v := 1) hx hb dJ5_append_3fe6f_34 (by decide) ?_
        refine lv_iadd hx hb dJ5_append_3fe6f_35 ?_
        refine q_putV (T := TJ4) (N := 4) (ty0 := tyJ4) (ty := tyJ4 3) X hH hf iw_J4 tyJ4_ok nmJ4 rfl (by decide) tw_199 (fun _ h => h) rfl (tyJ4_ok 3 (by decide)) rfl rfl dJ5_append_3fe6f_36 (fun S13 hf H locs hH => ?_)
        refine lv_iload_n hx hb dJ5_append_3fe6f_39 rfl (lv_at hl 1 rfl) ?_
        refine lv_i2b (v := (a1).toInt8.toInt32) hx hb dJ5_append_3fe6f_40 rfl ?_
        refine q_bast X hH hf dJ5_append_3fe6f_41 (fun S14 hf H locs hH => ?_)
        refine lv_goto (tgt := 75) hx hb dJ5_append_3fe6f_42 (by decide) ?_
        refine lv_aload_n hx hb dJ5_append_3fe6f_75 rfl (lv_at hl 0 rfl) ?_
        exact q_retR X hH hr (Or.inl ⟨_, rfl⟩) hlk hf (Nat.le_trans (Nat.le_add_right _ _) hB.1) (Nat.le_trans (Nat.le_add_right _ _) hB.2) dJ5_append_3fe6f_76
  exact main s.heap [] ls 0 0 mc ms hf hH hl ⟨by omega, by omega⟩
-- J5_append_c97b9
def f_J5_append_c97b9 (S : PS) (a0 : Nat) (a1 : Int32) (bc bs : Nat) (post : Nat → PS → Prop) : Prop :=
  gI S a0 1 3 fun v1 => (
  f_J6_stringSize_0f7a4 S a1 fun v3 S2 => (
  isO S2 a0 1 (
  ∃ mc5 ms5 : Nat, mc5 ≤ bc ∧ ms5 ≤ bs ∧ (f_J5_ensureCapacityInternal_d00df S2 a0 (v1 + v3) mc5 ms5 fun S4 => (
  isO S4 a0 1 (
  f_J5_isLatin1_aae02 S4 a0 fun v8 S7 => (
  if v8 = 0 then
    False
  else
    gR S7 a0 1 0 fun v10 => (
    f_J6_getChars_ba4f3 S7 a1 (v1 + v3) v10 fun v12 S11 => (
    pV S11 a0 1 3 (.int (v1 + v3)) fun S13 => (
    post a0 S13))))))))))
abbrev rm_J5_append_c97b9 (mc ms : Nat) : Room := { frames := 4, cells := mc, slots := ms, locals := 104 }
set_option maxHeartbeats 4000000 in
set_option maxRecDepth 100000 in
theorem c_J5_append_c97b9 (l : Launch) (D : va_G) (cy : Nat → ClassId) (G : p_GT) (hG : p_ok G) (hGC : ∀ (A : Nat → Prop) (U : State) (H : Heap), G A U H → gC A U H) (dT dO : Nat) (hGT : ∀ (A : Nat → Prop) (U : State) (H : Heap), G A U H → gT dT dO A U H) (hGU : ∀ (A : Nat → Prop) (U : State) (H : Heap), G A U H → gU A U H) (S : PS) (a0 : Nat) (a1 : Int32) (mc ms : Nat) (post : Nat → PS → Prop) (sz : Nat) (hf : f_J5_append_c97b9 S a0 a1 mc ms post) : p_Mr l D cy G S sz yJ5_append_c97b9 (Cond.code yJ5_append_c97b9 cJ5_append_c97b9 4 (some (.object "java/lang/AbstractStringBuilder")) :: wG) (rm_J5_append_c97b9 mc ms) [.ref a0, .int a1] mc ms post := by
  refine q_start hG (Qc := fun A => p_Qr D cy post A) mf_J5_append_c97b9 (Nat.le_of_ble_eq_true rfl) (own := RJ5) rfl ?_
  intro p e s m below meth c A X hr hlk hnm ls hl hH
  have hx := X.1.1
  have hb := X.1.2.1
  replace hl : lv_has ls 4 [(0, .ref a0), (1, .int a1)] := hl
  have main : ∀ (H : Heap) (locs : List Loc) (ls : Array Slot) (cells slots bc bs : Nat), f_J5_append_c97b9 S a0 a1 bc bs post → p_H D cy S A s H locs → lv_has ls 4 [(0, .ref a0), (1, .int a1)] → cells + bc ≤ mc ∧ slots + bs ≤ ms → W p l e (rm_J5_append_c97b9 mc ms) s m [.ref a0, .int a1].toArray below meth c H locs cells slots (MQ below (p_Qr D cy post A) [.ref a0, .int a1].toArray s mc ms A) (F0 m 0 ls []) := by
    intro H locs ls cells slots bc bs hf hH hl hB
    refine lv_aload_n hx hb dJ5_append_c97b9_0 rfl (lv_at hl 0 rfl) ?_
    refine q_getI (T := TJ4) (N := 4) X hH hf iw_J4 rfl (by decide) tw_199 (fun _ h => h) dJ5_append_c97b9_1 (fun v1 hf => ?_)
    refine lv_istore_n (lv' := [(2, .int v1), (0, .ref a0), (1, .int a1)]) hx hb dJ5_append_c97b9_4 rfl hl (by decide) rfl (fun ls hl => ?_)
    refine lv_iload_n hx hb dJ5_append_c97b9_5 rfl (lv_at hl 0 rfl) ?_
    refine lv_iload_n hx hb dJ5_append_c97b9_6 rfl (lv_at hl 2 rfl) ?_
    refine q_backI0 X hH (q_runS [.int a1] [.int v1] X hH hl (c_J6_stringSize_0f7a4 l D cy G X.2.2.2.1 S a1 _ _ hf) mf_J6_stringSize_0f7a4 tw_797 tw_796 ⟨Nat.le_of_ble_eq_true rfl, Nat.le_of_ble_eq_true rfl⟩ rfl (Nat.le_of_ble_eq_true rfl) dJ5_append_c97b9_7 ⟨Nat.le_trans (Nat.le_add_right _ _) hB.1, Nat.le_trans (Nat.le_add_right _ _) hB.2⟩) (fun v3 S2 hf H locs hH => ?_)
    refine lv_iadd hx hb dJ5_append_c97b9_10 ?_
    refine lv_istore_n (lv' := [(3, .int (v1 + v3)), (2, .int v1), (0, .ref a0), (1, .int a1)]) hx hb dJ5_append_c97b9_11 rfl hl (by decide) rfl (fun ls hl => ?_)
    refine lv_aload_n hx hb dJ5_append_c97b9_12 rfl (lv_at hl 2 rfl) ?_
    refine lv_iload_n hx hb dJ5_append_c97b9_13 rfl (lv_at hl 0 rfl) ?_
    obtain ⟨hb1, hb2, hf⟩ := hf
    obtain ⟨mc5, ms5, hm1, hs1, hf⟩ := hf
    refine q_backVB X hH hB hm1 hs1 (q_runU [.int (v1 + v3)] [] X hH hl (c_J5_ensureCapacityInternal_d00df l D cy G X.2.2.2.1 hGU S2 a0 (v1 + v3) mc5 ms5 _ _ hf) mf_J5_ensureCapacityInternal_d00df ⟨tw_675, tw_1301⟩ (va_Nw.use rfl (hGU _ _ _ X.2.2.2.2).1) tw_673 ⟨Nat.le_of_ble_eq_true rfl, Nat.le_of_ble_eq_true rfl⟩ hb1 hb2 rfl (Nat.le_of_ble_eq_true rfl) dJ5_append_c97b9_14 ⟨Nat.le_trans (Nat.add_le_add_left hm1 _) hB.1, Nat.le_trans (Nat.add_le_add_left hs1 _) hB.2⟩) (fun S4 hf H locs cells slots hH hB => ?_)
    refine lv_aload_n hx hb dJ5_append_c97b9_17 rfl (lv_at hl 2 rfl) ?_
    obtain ⟨hb1, hb2, hf⟩ := hf
    refine q_backI0 X hH (q_runU [] [] X hH hl (c_J5_isLatin1_aae02 l D cy G X.2.2.2.1 hGC S4 a0 _ _ hf) mf_J5_isLatin1_aae02 ⟨tw_705, tw_706⟩ (X.1.2.2.2.2 _ tw_707) tw_704 ⟨Nat.le_of_ble_eq_true rfl, Nat.le_of_ble_eq_true rfl⟩ hb1 hb2 rfl (Nat.le_of_ble_eq_true rfl) dJ5_append_c97b9_18 ⟨Nat.le_trans (Nat.le_add_right _ _) hB.1, Nat.le_trans (Nat.le_add_right _ _) hB.2⟩) (fun v8 S7 hf H locs hH => ?_)
    refine lv_if_eq (tgt := 37) hx hb dJ5_append_c97b9_21 (by decide) (fun c9 => ?_) (fun c9 => ?_)
    · have hf := (if_pos c9).mp hf
      exact hf.elim
    · have hf := (if_neg c9).mp hf
      refine lv_iload_n hx hb dJ5_append_c97b9_24 rfl (lv_at hl 3 rfl) ?_
      refine lv_iload_n hx hb dJ5_append_c97b9_25 rfl (lv_at hl 0 rfl) ?_
      refine lv_aload_n hx hb dJ5_append_c97b9_26 rfl (lv_at hl 2 rfl) ?_
      refine q_getR (T := TJ4) (N := 4) X hH hf iw_J4 rfl (by decide) tw_195 (fun _ h => h) dJ5_append_c97b9_27 (fun v10 hf => ?_)
      refine q_backI0 X hH (q_runS [.int a1, .int (v1 + v3), .ref v10] [] X hH hl (c_J6_getChars_ba4f3 l D cy G X.2.2.2.1 dT dO hGT S7 a1 (v1 + v3) v10 _ _ hf) mf_J6_getChars_ba4f3 tw_800 tw_799 ⟨Nat.le_of_ble_eq_true rfl, Nat.le_of_ble_eq_true rfl⟩ rfl (Nat.le_of_ble_eq_true rfl) dJ5_append_c97b9_30 ⟨Nat.le_trans (Nat.le_add_right _ _) hB.1, Nat.le_trans (Nat.le_add_right _ _) hB.2⟩) (fun v12 S11 hf H locs hH => ?_)
      refine lv_pop hx hb dJ5_append_c97b9_33 rfl ?_
      refine lv_goto (tgt := 48) hx hb dJ5_append_c97b9_34 (by decide) ?_
      refine lv_aload_n hx hb dJ5_append_c97b9_48 rfl (lv_at hl 2 rfl) ?_
      refine lv_iload_n hx hb dJ5_append_c97b9_49 rfl (lv_at hl 0 rfl) ?_
      refine q_putV (T := TJ4) (N := 4) (ty0 := tyJ4) (ty := tyJ4 3) X hH hf iw_J4 tyJ4_ok nmJ4 rfl (by decide) tw_199 (fun _ h => h) rfl (tyJ4_ok 3 (by decide)) rfl rfl dJ5_append_c97b9_50 (fun S13 hf H locs hH => ?_)
      refine lv_aload_n hx hb dJ5_append_c97b9_53 rfl (lv_at hl 2 rfl) ?_
      exact q_retR X hH hr (Or.inl ⟨_, rfl⟩) hlk hf (Nat.le_trans (Nat.le_add_right _ _) hB.1) (Nat.le_trans (Nat.le_add_right _ _) hB.2) dJ5_append_c97b9_54
  exact main s.heap [] ls 0 0 mc ms hf hH hl ⟨by omega, by omega⟩
-- J5_putStringAt_47b60
def f_J5_putStringAt_47b60 (adK : Nat → Nat) (S : PS) (a0 : Nat) (a1 : Int32) (a2 : Nat) (post : PS → Prop) : Prop :=
  isO S a0 1 (
  f_J5_inflateIfNeededFor_a7421 adK S a0 a2 fun S1 => (
  gR S1 a0 1 0 fun v3 => (
  gI S1 a0 1 1 fun v4 => (
  sK adK a2 fun k7 => (f_J0_getBytes_840e7 adK S1 a2 v3 a1 v4 fun S5 => (
  post S5))))))
abbrev rm_J5_putStringAt_47b60 : Room := { frames := 2, cells := 0, slots := 0, locals := 83 }
set_option maxHeartbeats 4000000 in
set_option maxRecDepth 100000 in
theorem c_J5_putStringAt_47b60 (l : Launch) (D : va_G) (cy : Nat → ClassId) (G : p_GT) (hG : p_ok G) (hGC : ∀ (A : Nat → Prop) (U : State) (H : Heap), G A U H → gC A U H) (adK adV : Nat → Nat) (hGK : ∀ (A : Nat → Prop) (U : State) (H : Heap), G A U H → gK adK adV A U H) (hGU : ∀ (A : Nat → Prop) (U : State) (H : Heap), G A U H → gU A U H) (S : PS) (a0 : Nat) (a1 : Int32) (a2 : Nat) (post : PS → Prop) (sz : Nat) (hf : f_J5_putStringAt_47b60 adK S a0 a1 a2 post) : p_Mv l D cy G S sz yJ5_putStringAt_47b60 (Cond.code yJ5_putStringAt_47b60 cJ5_putStringAt_47b60 3 none :: wG) rm_J5_putStringAt_47b60 [.ref a0, .int a1, .ref a2] 0 0 post := by
  refine q_start hG (Qc := fun A => va_Qv post (p_Post D cy A) A) mf_J5_putStringAt_47b60 (Nat.le_of_ble_eq_true rfl) (own := RJ5) rfl ?_
  intro p e s m below meth c A X hr hlk hnm ls hl hH
  have hx := X.1.1
  have hb := X.1.2.1
  replace hl : lv_has ls 3 [(0, .ref a0), (1, .int a1), (2, .ref a2)] := hl
  obtain ⟨H, hHe⟩ : ∃ H, H = s.heap := ⟨_, rfl⟩
  obtain ⟨locs, hlo⟩ : ∃ locs : List Loc, locs = [] := ⟨_, rfl⟩
  rw [← hHe, ← hlo] at hH
  show W p l e rm_J5_putStringAt_47b60 s m [.ref a0, .int a1, .ref a2].toArray below meth c s.heap [] 0 0 _ _
  rw [← hHe, ← hlo]
  refine lv_aload_n hx hb dJ5_putStringAt_47b60_0 rfl (lv_at hl 0 rfl) ?_
  refine lv_aload_n hx hb dJ5_putStringAt_47b60_1 rfl (lv_at hl 2 rfl) ?_
  obtain ⟨hb1, hb2, hf⟩ := hf
  refine q_backV0 X hH (q_runU [.ref a2] [] X hH hl (c_J5_inflateIfNeededFor_a7421 l D cy G X.2.2.2.1 hGC adK adV hGK S a0 a2 _ _ hf) mf_J5_inflateIfNeededFor_a7421 ⟨tw_1234, tw_1311⟩ (va_Nw.use rfl (hGU _ _ _ X.2.2.2.2).2.2.1) tw_1232 ⟨Nat.le_of_ble_eq_true rfl, Nat.le_of_ble_eq_true rfl⟩ hb1 hb2 rfl (Nat.le_of_ble_eq_true rfl) dJ5_putStringAt_47b60_2 ⟨Nat.le_of_ble_eq_true rfl, Nat.le_of_ble_eq_true rfl⟩) (fun S1 hf H locs hH => ?_)
  refine lv_aload_n hx hb dJ5_putStringAt_47b60_5 rfl (lv_at hl 2 rfl) ?_
  refine lv_aload_n hx hb dJ5_putStringAt_47b60_6 rfl (lv_at hl 0 rfl) ?_
  refine q_getR (T := TJ4) (N := 4) X hH hf iw_J4 rfl (by decide) tw_195 (fun _ h => h) dJ5_putStringAt_47b60_7 (fun v3 hf => ?_)
  refine lv_iload_n hx hb dJ5_putStringAt_47b60_10 rfl (lv_at hl 1 rfl) ?_
  refine lv_aload_n hx hb dJ5_putStringAt_47b60_11 rfl (lv_at hl 0 rfl) ?_
  refine q_getI (T := TJ4) (N := 4) X hH hf iw_J4 rfl (by decide) tw_196 (fun _ h => h) dJ5_putStringAt_47b60_12 (fun v4 hf => ?_)
  obtain ⟨k7, hk7, hek7, hf⟩ := hf
  refine q_backV0 X hH (q_runK [.ref v3, .int a1, .int v4] [] X hH hl (c_J0_getBytes_840e7 l D cy G X.2.2.2.1 hGC adK adV hGK S1 a2 v3 a1 v4 _ _ hf) mf_J0_getBytes_840e7 mv_J0_getBytes_840e7 tw_1237 ⟨Nat.le_of_ble_eq_true rfl, Nat.le_of_ble_eq_true rfl⟩ (hGK _ _ _ X.2.2.2.2) hk7 hek7 rfl rfl (Nat.le_of_ble_eq_true rfl) dJ5_putStringAt_47b60_15 ⟨Nat.le_of_ble_eq_true rfl, Nat.le_of_ble_eq_true rfl⟩) (fun S5 hf H locs hH => ?_)
  exact q_retV X hH hr hlk hf (Nat.zero_le _) (Nat.zero_le _) dJ5_putStringAt_47b60_18
-- J0_charAt_5068e
def f_J0_charAt_5068e (adK : Nat → Nat) (S : PS) (a0 : Nat) (a1 : Int32) (post : Int32 → PS → Prop) : Prop :=
  sK adK a0 fun k1 => (
  (f_J0_isLatin1_aae02 adK S (adK k1) fun v3 S2 => (
  if v3 = 0 then
    False
  else
    f_J1_charAt_3b067 S2 k1 a1 fun v6 S5 => (
    nZ .char v6 (post v6 S5)))))
abbrev rm_J0_charAt_5068e : Room := { frames := 3, cells := 0, slots := 0, locals := 64 }
set_option maxHeartbeats 4000000 in
set_option maxRecDepth 100000 in
theorem c_J0_charAt_5068e (l : Launch) (D : va_G) (cy : Nat → ClassId) (G : p_GT) (hG : p_ok G) (hGC : ∀ (A : Nat → Prop) (U : State) (H : Heap), G A U H → gC A U H) (hGF : ∀ (A : Nat → Prop) (U : State) (H : Heap), G A U H → gF A U H) (adK adV : Nat → Nat) (hGK : ∀ (A : Nat → Prop) (U : State) (H : Heap), G A U H → gK adK adV A U H) (S : PS) (a0 : Nat) (a1 : Int32) (post : Int32 → PS → Prop) (sz : Nat) (hf : f_J0_charAt_5068e adK S a0 a1 post) : p_Mi l D cy G S sz yJ0_charAt_5068e (Cond.code yJ0_charAt_5068e cJ0_charAt_5068e 2 (some .char) :: wG) rm_J0_charAt_5068e [.ref a0, .int a1] 0 0 post := by
  refine q_start hG (Qc := fun A => va_Qi post (p_Post D cy A) A) mf_J0_charAt_5068e (Nat.le_of_ble_eq_true rfl) (own := RJ0) rfl ?_
  intro p e s m below meth c A X hr hlk hnm ls hl hH
  have hx := X.1.1
  have hb := X.1.2.1
  replace hl : lv_has ls 2 [(0, .ref a0), (1, .int a1)] := hl
  obtain ⟨H, hHe⟩ : ∃ H, H = s.heap := ⟨_, rfl⟩
  obtain ⟨locs, hlo⟩ : ∃ locs : List Loc, locs = [] := ⟨_, rfl⟩
  rw [← hHe, ← hlo] at hH
  show W p l e rm_J0_charAt_5068e s m [.ref a0, .int a1].toArray below meth c s.heap [] 0 0 _ _
  rw [← hHe, ← hlo]
  obtain ⟨k1, hk1, hek1, hf⟩ := hf
  replace hl : lv_has ls 2 [(0, .ref (adK k1)), (1, .int a1)] := by rw [← hek1]; exact hl
  refine lv_aload_n hx hb dJ0_charAt_5068e_0 rfl (lv_at hl 0 rfl) ?_
  refine q_backI0 X hH (q_runK [] [] X hH hl (c_J0_isLatin1_aae02 l D cy G X.2.2.2.1 hGC adK adV hGK S (adK k1) _ _ hf) mf_J0_isLatin1_aae02 mv_J0_isLatin1_aae02 tw_1194 ⟨Nat.le_of_ble_eq_true rfl, Nat.le_of_ble_eq_true rfl⟩ (hGK _ _ _ X.2.2.2.2) hk1 rfl rfl rfl (Nat.le_of_ble_eq_true rfl) dJ0_charAt_5068e_1 ⟨Nat.le_of_ble_eq_true rfl, Nat.le_of_ble_eq_true rfl⟩) (fun v3 S2 hf H locs hH => ?_)
  refine lv_if_eq (tgt := 16) hx hb dJ0_charAt_5068e_4 (by decide) (fun c4 => ?_) (fun c4 => ?_)
  · have hf := (if_pos c4).mp hf
    exact hf.elim
  · have hf := (if_neg c4).mp hf
    refine lv_aload_n hx hb dJ0_charAt_5068e_7 rfl (lv_at hl 0 rfl) ?_
    refine q_getK X hH ((hGK _ _ _ X.2.2.2.2).1.1 k1 hk1).2.2.1 tw_1283 dJ0_charAt_5068e_8 ?_
    refine lv_iload_n hx hb dJ0_charAt_5068e_11 rfl (lv_at hl 1 rfl) ?_
    refine q_backI0 X hH (q_runS [.ref (adV k1), .int a1] [] X hH hl (c_J1_charAt_3b067 l D cy G X.2.2.2.1 hGF adK adV hGK S2 k1 a1 _ _ hf) mf_J1_charAt_3b067 tw_1199 tw_1198 ⟨Nat.le_of_ble_eq_true rfl, Nat.le_of_ble_eq_true rfl⟩ rfl (Nat.le_of_ble_eq_true rfl) dJ0_charAt_5068e_12 ⟨Nat.le_of_ble_eq_true rfl, Nat.le_of_ble_eq_true rfl⟩) (fun v6 S5 hf H locs hH => ?_)
    exact q_retZ X hH hr hlk hf (Nat.zero_le _) (Nat.zero_le _) dJ0_charAt_5068e_15
-- J0_init_db425_p
def f_J0_init_db425_p (S : PS) (a0 : Nat) (a1 : Nat) (bc bs : Nat) (post : PS → Prop) : Prop :=
  isO S a1 1 (
  f_J5_getValue_6d5f1 S a1 fun v2 S1 => (
  isO S1 a1 1 (
  f_J4_length_8abf5 S1 a1 fun v4 S3 => (
  isO S3 a1 1 (
  f_J5_isLatin1_aae02 S3 a1 fun v6 S5 => (
  if v6 = 0 then
    False
  else
    pV S5 a0 0 1 (.int 0) fun S8 => (
    ∃ mc10 ms10 : Nat, mc10 ≤ bc ∧ ms10 ≤ bs ∧ (f_J7_copyOfRange_39247 S8 v2 0 v4 mc10 ms10 fun v11 S9 => (
    pV S9 a0 0 0 (.ref v11) fun S12 => (
    post S12))))))))))
abbrev rm_J0_init_db425_p (mc ms : Nat) : Room := { frames := 3, cells := mc, slots := ms, locals := 106 }
set_option maxHeartbeats 4000000 in
set_option maxRecDepth 100000 in
theorem c_J0_init_db425_p (l : Launch) (D : va_G) (cy : Nat → ClassId) (G : p_GT) (hG : p_ok G) (hGC : ∀ (A : Nat → Prop) (U : State) (H : Heap), G A U H → gC A U H) (hst : l.stackTraces = false) (hGE : ∀ (A : Nat → Prop) (U : State) (H : Heap), G A U H → p_Ex A U H) (S : PS) (a0 : Nat) (a1 : Nat) (mc ms : Nat) (post : PS → Prop) (sz : Nat) (hf : f_J0_init_db425_p S a0 a1 mc ms post) : p_Mv l D cy G S sz yJ0_init_db425 (Cond.code yJ0_init_db425 cJ0_init_db425 5 none :: wG) (rm_J0_init_db425_p mc ms) [.ref a0, .ref a1, .null] mc ms post := by
  refine q_start hG (Qc := fun A => va_Qv post (p_Post D cy A) A) mf_J0_init_db425 (Nat.le_of_ble_eq_true rfl) (own := RJ0) rfl ?_
  intro p e s m below meth c A X hr hlk hnm ls hl hH
  have hx := X.1.1
  have hb := X.1.2.1
  replace hl : lv_has ls 5 [(0, .ref a0), (1, .ref a1), (2, .null)] := hl
  have main : ∀ (H : Heap) (locs : List Loc) (ls : Array Slot) (cells slots bc bs : Nat), f_J0_init_db425_p S a0 a1 bc bs post → p_H D cy S A s H locs → lv_has ls 5 [(0, .ref a0), (1, .ref a1), (2, .null)] → cells + bc ≤ mc ∧ slots + bs ≤ ms → W p l e (rm_J0_init_db425_p mc ms) s m [.ref a0, .ref a1, .null].toArray below meth c H locs cells slots (MQ below (va_Qv post (p_Post D cy A) A) [.ref a0, .ref a1, .null].toArray s mc ms A) (F0 m 0 ls []) := by
    intro H locs ls cells slots bc bs hf hH hl hB
    refine lv_aload_n hx hb dJ0_init_db425_0 rfl (lv_at hl 0 rfl) ?_
    refine q_objInit X hl tw_1256 tw_64 tw_o ⟨Nat.le_of_ble_eq_true rfl, Nat.le_of_ble_eq_true rfl⟩ (Nat.le_of_ble_eq_true rfl) dJ0_init_db425_1 ?_
    refine lv_aload_n hx hb dJ0_init_db425_4 rfl (lv_at hl 1 rfl) ?_
    obtain ⟨hb1, hb2, hf⟩ := hf
    refine q_backR0 X hH (q_runU [] [] X hH hl (c_J5_getValue_6d5f1 l D cy G X.2.2.2.1 S a1 _ _ hf) mf_J5_getValue_6d5f1 ⟨tw_1258, tw_1259⟩ (X.1.2.2.2.2 _ tw_1260) tw_1257 ⟨Nat.le_of_ble_eq_true rfl, Nat.le_of_ble_eq_true rfl⟩ hb1 hb2 rfl (Nat.le_of_ble_eq_true rfl) dJ0_init_db425_5 ⟨Nat.le_trans (Nat.le_add_right _ _) hB.1, Nat.le_trans (Nat.le_add_right _ _) hB.2⟩) (fun v2 S1 hf H locs hH => ?_)
    refine lv_astore_n (lv' := [(3, .ref v2), (0, .ref a0), (1, .ref a1), (2, .null)]) hx hb dJ0_init_db425_8 rfl hl (by decide) rfl (fun ls hl => ?_)
    refine lv_aload_n hx hb dJ0_init_db425_9 rfl (lv_at hl 2 rfl) ?_
    obtain ⟨hb1, hb2, hf⟩ := hf
    refine q_backI0 X hH (q_runO [] [] X hH hl (c_J4_length_8abf5 l D cy G X.2.2.2.1 S1 a1 _ _ hf) mf_J4_length_8abf5 mf_J5_length_8abf5 ⟨tw_732, tw_1303⟩ tw_728 tw_1312 tw_1262 ⟨Nat.le_of_ble_eq_true rfl, Nat.le_of_ble_eq_true rfl⟩ hb1 hb2 rfl (Nat.le_of_ble_eq_true rfl) dJ0_init_db425_10 ⟨Nat.le_trans (Nat.le_add_right _ _) hB.1, Nat.le_trans (Nat.le_add_right _ _) hB.2⟩) (fun v4 S3 hf H locs hH => ?_)
    refine lv_istore (lv' := [(4, .int v4), (3, .ref v2), (0, .ref a0), (1, .ref a1), (2, .null)]) hx hb dJ0_init_db425_13 hl (by decide) rfl (fun ls hl => ?_)
    refine lv_aload_n hx hb dJ0_init_db425_15 rfl (lv_at hl 3 rfl) ?_
    obtain ⟨hb1, hb2, hf⟩ := hf
    refine q_backI0 X hH (q_runU [] [] X hH hl (c_J5_isLatin1_aae02 l D cy G X.2.2.2.1 hGC S3 a1 _ _ hf) mf_J5_isLatin1_aae02 ⟨tw_705, tw_706⟩ (X.1.2.2.2.2 _ tw_707) tw_1263 ⟨Nat.le_of_ble_eq_true rfl, Nat.le_of_ble_eq_true rfl⟩ hb1 hb2 rfl (Nat.le_of_ble_eq_true rfl) dJ0_init_db425_16 ⟨Nat.le_trans (Nat.le_add_right _ _) hB.1, Nat.le_trans (Nat.le_add_right _ _) hB.2⟩) (fun v6 S5 hf H locs hH => ?_)
    refine lv_if_eq (tgt := 41) hx hb dJ0_init_db425_19 (by decide) (fun c7 => ?_) (fun c7 => ?_)
    · have hf := (if_pos c7).mp hf
      exact hf.elim
    · have hf := (if_neg c7).mp hf
      refine lv_aload_n hx hb dJ0_init_db425_22 rfl (lv_at hl 2 rfl) ?_
      refine lv_iconst (v := 0) hx hb dJ0_init_db425_23 (by decide) ?_
      refine q_putF (T := TJ0) (N := 4) (ty0 := tyJ0) (ty := tyJ0 1) X hH hf iw_J0 tyJ0_ok nmJ0 rfl (by decide) tw_1284 (fun _ h => h) rfl hnm rfl (tyJ0_ok 1 (by decide)) rfl rfl dJ0_init_db425_24 (fun S8 hf H locs hH => ?_)
      refine lv_aload_n hx hb dJ0_init_db425_27 rfl (lv_at hl 2 rfl) ?_
      refine lv_aload_n hx hb dJ0_init_db425_28 rfl (lv_at hl 1 rfl) ?_
      refine lv_iconst (v := 0) hx hb dJ0_init_db425_29 (by decide) ?_
      refine lv_iload hx hb dJ0_init_db425_30 (lv_at hl 0 rfl) ?_
      obtain ⟨mc10, ms10, hm1, hs1, hf⟩ := hf
      refine q_backRB X hH hB hm1 hs1 (q_runS [.ref v2, .int 0, .int v4] [.ref a0] X hH hl (c_J7_copyOfRange_39247 l D cy G X.2.2.2.1 hst hGE S8 v2 0 v4 mc10 ms10 _ _ hf) mf_J7_copyOfRange_39247 tw_1265 tw_1264 ⟨Nat.le_of_ble_eq_true rfl, Nat.le_of_ble_eq_true rfl⟩ rfl (Nat.le_of_ble_eq_true rfl) dJ0_init_db425_32 ⟨Nat.le_trans (Nat.add_le_add_left hm1 _) hB.1, Nat.le_trans (Nat.add_le_add_left hs1 _) hB.2⟩) (fun v11 S9 hf H locs cells slots hH hB => ?_)
      refine q_putF (T := TJ0) (N := 4) (ty0 := tyJ0) (ty := tyJ0 0) X hH hf iw_J0 tyJ0_ok nmJ0 rfl (by decide) tw_1283 (fun _ h => h) rfl hnm rfl (tyJ0_ok 0 (by decide)) rfl rfl dJ0_init_db425_35 (fun S12 hf H locs hH => ?_)
      refine lv_goto (tgt := 97) hx hb dJ0_init_db425_38 (by decide) ?_
      exact q_retV X hH hr hlk hf (Nat.le_trans (Nat.le_add_right _ _) hB.1) (Nat.le_trans (Nat.le_add_right _ _) hB.2) dJ0_init_db425_97
  exact main s.heap [] ls 0 0 mc ms hf hH hl ⟨by omega, by omega⟩
-- J4_append_cf468
def f_J4_append_cf468 (S : PS) (a0 : Nat) (a1 : Int32) (bc bs : Nat) (post : Nat → PS → Prop) : Prop :=
  isO S a0 1 (
  ∃ mc2 ms2 : Nat, mc2 ≤ bc ∧ ms2 ≤ bs ∧ (f_J5_append_3fe6f S a0 a1 mc2 ms2 fun v3 S1 => (
  post a0 S1)))
abbrev rm_J4_append_cf468 (mc ms : Nat) : Room := { frames := 5, cells := mc, slots := ms, locals := 125 }
set_option maxHeartbeats 4000000 in
set_option maxRecDepth 100000 in
theorem c_J4_append_cf468 (l : Launch) (D : va_G) (cy : Nat → ClassId) (G : p_GT) (hG : p_ok G) (hGC : ∀ (A : Nat → Prop) (U : State) (H : Heap), G A U H → gC A U H) (hGU : ∀ (A : Nat → Prop) (U : State) (H : Heap), G A U H → gU A U H) (S : PS) (a0 : Nat) (a1 : Int32) (mc ms : Nat) (post : Nat → PS → Prop) (sz : Nat) (hf : f_J4_append_cf468 S a0 a1 mc ms post) : p_Mr l D cy G S sz yJ4_append_cf468 (Cond.code yJ4_append_cf468 cJ4_append_cf468 2 (some (.object "java/lang/StringBuilder")) :: wG) (rm_J4_append_cf468 mc ms) [.ref a0, .int a1] mc ms post := by
  refine q_start hG (Qc := fun A => p_Qr D cy post A) mf_J4_append_cf468 (Nat.le_of_ble_eq_true rfl) (own := RJ4) rfl ?_
  intro p e s m below meth c A X hr hlk hnm ls hl hH
  have hx := X.1.1
  have hb := X.1.2.1
  replace hl : lv_has ls 2 [(0, .ref a0), (1, .int a1)] := hl
  have main : ∀ (H : Heap) (locs : List Loc) (ls : Array Slot) (cells slots bc bs : Nat), f_J4_append_cf468 S a0 a1 bc bs post → p_H D cy S A s H locs → lv_has ls 2 [(0, .ref a0), (1, .int a1)] → cells + bc ≤ mc ∧ slots + bs ≤ ms → W p l e (rm_J4_append_cf468 mc ms) s m [.ref a0, .int a1].toArray below meth c H locs cells slots (MQ below (p_Qr D cy post A) [.ref a0, .int a1].toArray s mc ms A) (F0 m 0 ls []) := by
    intro H locs ls cells slots bc bs hf hH hl hB
    refine lv_aload_n hx hb dJ4_append_cf468_0 rfl (lv_at hl 0 rfl) ?_
    refine lv_iload_n hx hb dJ4_append_cf468_1 rfl (lv_at hl 1 rfl) ?_
    obtain ⟨hb1, hb2, hf⟩ := hf
    obtain ⟨mc2, ms2, hm1, hs1, hf⟩ := hf
    refine q_backRB X hH hB hm1 hs1 (q_runSU [.int a1] [] X hH hl (c_J5_append_3fe6f l D cy G X.2.2.2.1 hGC hGU S a0 a1 mc2 ms2 _ _ hf) mf_J5_append_3fe6f tw_739 tw_1304 tw_208 (by decide +kernel) tw_738 ⟨Nat.le_of_ble_eq_true rfl, Nat.le_of_ble_eq_true rfl⟩ hb1 hb2 rfl (Nat.le_of_ble_eq_true rfl) dJ4_append_cf468_2 ⟨Nat.le_trans (Nat.add_le_add_left hm1 _) hB.1, Nat.le_trans (Nat.add_le_add_left hs1 _) hB.2⟩) (fun v3 S1 hf H locs cells slots hH hB => ?_)
    refine lv_pop hx hb dJ4_append_cf468_5 rfl ?_
    refine lv_aload_n hx hb dJ4_append_cf468_6 rfl (lv_at hl 0 rfl) ?_
    exact q_retR X hH hr (Or.inl ⟨_, rfl⟩) hlk hf (Nat.le_trans (Nat.le_add_right _ _) hB.1) (Nat.le_trans (Nat.le_add_right _ _) hB.2) dJ4_append_cf468_7
  exact main s.heap [] ls 0 0 mc ms hf hH hl ⟨by omega, by omega⟩
-- J4_append_bf812
def f_J4_append_bf812 (S : PS) (a0 : Nat) (a1 : Int32) (bc bs : Nat) (post : Nat → PS → Prop) : Prop :=
  isO S a0 1 (
  ∃ mc2 ms2 : Nat, mc2 ≤ bc ∧ ms2 ≤ bs ∧ (f_J5_append_c97b9 S a0 a1 mc2 ms2 fun v3 S1 => (
  post a0 S1)))
abbrev rm_J4_append_bf812 (mc ms : Nat) : Room := { frames := 5, cells := mc, slots := ms, locals := 127 }
set_option maxHeartbeats 4000000 in
set_option maxRecDepth 100000 in
theorem c_J4_append_bf812 (l : Launch) (D : va_G) (cy : Nat → ClassId) (G : p_GT) (hG : p_ok G) (hGC : ∀ (A : Nat → Prop) (U : State) (H : Heap), G A U H → gC A U H) (dT dO : Nat) (hGT : ∀ (A : Nat → Prop) (U : State) (H : Heap), G A U H → gT dT dO A U H) (hGU : ∀ (A : Nat → Prop) (U : State) (H : Heap), G A U H → gU A U H) (S : PS) (a0 : Nat) (a1 : Int32) (mc ms : Nat) (post : Nat → PS → Prop) (sz : Nat) (hf : f_J4_append_bf812 S a0 a1 mc ms post) : p_Mr l D cy G S sz yJ4_append_bf812 (Cond.code yJ4_append_bf812 cJ4_append_bf812 2 (some (.object "java/lang/StringBuilder")) :: wG) (rm_J4_append_bf812 mc ms) [.ref a0, .int a1] mc ms post := by
  refine q_start hG (Qc := fun A => p_Qr D cy post A) mf_J4_append_bf812 (Nat.le_of_ble_eq_true rfl) (own := RJ4) rfl ?_
  intro p e s m below meth c A X hr hlk hnm ls hl hH
  have hx := X.1.1
  have hb := X.1.2.1
  replace hl : lv_has ls 2 [(0, .ref a0), (1, .int a1)] := hl
  have main : ∀ (H : Heap) (locs : List Loc) (ls : Array Slot) (cells slots bc bs : Nat), f_J4_append_bf812 S a0 a1 bc bs post → p_H D cy S A s H locs → lv_has ls 2 [(0, .ref a0), (1, .int a1)] → cells + bc ≤ mc ∧ slots + bs ≤ ms → W p l e (rm_J4_append_bf812 mc ms) s m [.ref a0, .int a1].toArray below meth c H locs cells slots (MQ below (p_Qr D cy post A) [.ref a0, .int a1].toArray s mc ms A) (F0 m 0 ls []) := by
    intro H locs ls cells slots bc bs hf hH hl hB
    refine lv_aload_n hx hb dJ4_append_bf812_0 rfl (lv_at hl 0 rfl) ?_
    refine lv_iload_n hx hb dJ4_append_bf812_1 rfl (lv_at hl 1 rfl) ?_
    obtain ⟨hb1, hb2, hf⟩ := hf
    obtain ⟨mc2, ms2, hm1, hs1, hf⟩ := hf
    refine q_backRB X hH hB hm1 hs1 (q_runSU [.int a1] [] X hH hl (c_J5_append_c97b9 l D cy G X.2.2.2.1 hGC dT dO hGT hGU S a0 a1 mc2 ms2 _ _ hf) mf_J5_append_c97b9 tw_794 tw_1306 tw_208 (by decide +kernel) tw_793 ⟨Nat.le_of_ble_eq_true rfl, Nat.le_of_ble_eq_true rfl⟩ hb1 hb2 rfl (Nat.le_of_ble_eq_true rfl) dJ4_append_bf812_2 ⟨Nat.le_trans (Nat.add_le_add_left hm1 _) hB.1, Nat.le_trans (Nat.add_le_add_left hs1 _) hB.2⟩) (fun v3 S1 hf H locs cells slots hH hB => ?_)
    refine lv_pop hx hb dJ4_append_bf812_5 rfl ?_
    refine lv_aload_n hx hb dJ4_append_bf812_6 rfl (lv_at hl 0 rfl) ?_
    exact q_retR X hH hr (Or.inl ⟨_, rfl⟩) hlk hf (Nat.le_trans (Nat.le_add_right _ _) hB.1) (Nat.le_trans (Nat.le_add_right _ _) hB.2) dJ4_append_bf812_7
  exact main s.heap [] ls 0 0 mc ms hf hH hl ⟨by omega, by omega⟩
-- J4_charAt_5068e
def f_J4_charAt_5068e (S : PS) (a0 : Nat) (a1 : Int32) (post : Int32 → PS → Prop) : Prop :=
  isO S a0 1 (
  f_J5_charAt_5068e S a0 a1 fun v2 S1 => (
  nZ .char v2 (post v2 S1)))
abbrev rm_J4_charAt_5068e : Room := { frames := 3, cells := 0, slots := 0, locals := 67 }
set_option maxHeartbeats 4000000 in
set_option maxRecDepth 100000 in
theorem c_J4_charAt_5068e (l : Launch) (D : va_G) (cy : Nat → ClassId) (G : p_GT) (hG : p_ok G) (hGF : ∀ (A : Nat → Prop) (U : State) (H : Heap), G A U H → gF A U H) (S : PS) (a0 : Nat) (a1 : Int32) (post : Int32 → PS → Prop) (sz : Nat) (hf : f_J4_charAt_5068e S a0 a1 post) : p_Mi l D cy G S sz yJ4_charAt_5068e (Cond.code yJ4_charAt_5068e cJ4_charAt_5068e 2 (some .char) :: wG) rm_J4_charAt_5068e [.ref a0, .int a1] 0 0 post := by
  refine q_start hG (Qc := fun A => va_Qi post (p_Post D cy A) A) mf_J4_charAt_5068e (Nat.le_of_ble_eq_true rfl) (own := RJ4) rfl ?_
  intro p e s m below meth c A X hr hlk hnm ls hl hH
  have hx := X.1.1
  have hb := X.1.2.1
  replace hl : lv_has ls 2 [(0, .ref a0), (1, .int a1)] := hl
  obtain ⟨H, hHe⟩ : ∃ H, H = s.heap := ⟨_, rfl⟩
  obtain ⟨locs, hlo⟩ : ∃ locs : List Loc, locs = [] := ⟨_, rfl⟩
  rw [← hHe, ← hlo] at hH
  show W p l e rm_J4_charAt_5068e s m [.ref a0, .int a1].toArray below meth c s.heap [] 0 0 _ _
  rw [← hHe, ← hlo]
  refine lv_aload_n hx hb dJ4_charAt_5068e_0 rfl (lv_at hl 0 rfl) ?_
  refine lv_iload_n hx hb dJ4_charAt_5068e_1 rfl (lv_at hl 1 rfl) ?_
  obtain ⟨hb1, hb2, hf⟩ := hf
  refine q_backI0 X hH (q_runSU [.int a1] [] X hH hl (c_J5_charAt_5068e l D cy G X.2.2.2.1 hGF S a0 a1 _ _ hf) mf_J5_charAt_5068e tw_1183 tw_1307 tw_208 (by decide +kernel) tw_1182 ⟨Nat.le_of_ble_eq_true rfl, Nat.le_of_ble_eq_true rfl⟩ hb1 hb2 rfl (Nat.le_of_ble_eq_true rfl) dJ4_charAt_5068e_2 ⟨Nat.le_of_ble_eq_true rfl, Nat.le_of_ble_eq_true rfl⟩) (fun v2 S1 hf H locs hH => ?_)
  exact q_retZ X hH hr hlk hf (Nat.zero_le _) (Nat.zero_le _) dJ4_charAt_5068e_5
-- J4_setLength_d00df
def f_J4_setLength_d00df (S : PS) (a0 : Nat) (a1 : Int32) (bc bs : Nat) (post : PS → Prop) : Prop :=
  isO S a0 1 (
  ∃ mc2 ms2 : Nat, mc2 ≤ bc ∧ ms2 ≤ bs ∧ (f_J5_setLength_d00df S a0 a1 mc2 ms2 fun S1 => (
  post S1)))
abbrev rm_J4_setLength_d00df (mc ms : Nat) : Room := { frames := 5, cells := mc, slots := ms, locals := 125 }
set_option maxHeartbeats 4000000 in
set_option maxRecDepth 100000 in
theorem c_J4_setLength_d00df (l : Launch) (D : va_G) (cy : Nat → ClassId) (G : p_GT) (hG : p_ok G) (hGU : ∀ (A : Nat → Prop) (U : State) (H : Heap), G A U H → gU A U H) (S : PS) (a0 : Nat) (a1 : Int32) (mc ms : Nat) (post : PS → Prop) (sz : Nat) (hf : f_J4_setLength_d00df S a0 a1 mc ms post) : p_Mv l D cy G S sz yJ4_setLength_d00df (Cond.code yJ4_setLength_d00df cJ4_setLength_d00df 2 none :: wG) (rm_J4_setLength_d00df mc ms) [.ref a0, .int a1] mc ms post := by
  refine q_start hG (Qc := fun A => va_Qv post (p_Post D cy A) A) mf_J4_setLength_d00df (Nat.le_of_ble_eq_true rfl) (own := RJ4) rfl ?_
  intro p e s m below meth c A X hr hlk hnm ls hl hH
  have hx := X.1.1
  have hb := X.1.2.1
  replace hl : lv_has ls 2 [(0, .ref a0), (1, .int a1)] := hl
  have main : ∀ (H : Heap) (locs : List Loc) (ls : Array Slot) (cells slots bc bs : Nat), f_J4_setLength_d00df S a0 a1 bc bs post → p_H D cy S A s H locs → lv_has ls 2 [(0, .ref a0), (1, .int a1)] → cells + bc ≤ mc ∧ slots + bs ≤ ms → W p l e (rm_J4_setLength_d00df mc ms) s m [.ref a0, .int a1].toArray below meth c H locs cells slots (MQ below (va_Qv post (p_Post D cy A) A) [.ref a0, .int a1].toArray s mc ms A) (F0 m 0 ls []) := by
    intro H locs ls cells slots bc bs hf hH hl hB
    refine lv_aload_n hx hb dJ4_setLength_d00df_0 rfl (lv_at hl 0 rfl) ?_
    refine lv_iload_n hx hb dJ4_setLength_d00df_1 rfl (lv_at hl 1 rfl) ?_
    obtain ⟨hb1, hb2, hf⟩ := hf
    obtain ⟨mc2, ms2, hm1, hs1, hf⟩ := hf
    refine q_backVB X hH hB hm1 hs1 (q_runSU [.int a1] [] X hH hl (c_J5_setLength_d00df l D cy G X.2.2.2.1 hGU S a0 a1 mc2 ms2 _ _ hf) mf_J5_setLength_d00df tw_671 tw_1300 tw_208 (by decide +kernel) tw_670 ⟨Nat.le_of_ble_eq_true rfl, Nat.le_of_ble_eq_true rfl⟩ hb1 hb2 rfl (Nat.le_of_ble_eq_true rfl) dJ4_setLength_d00df_2 ⟨Nat.le_trans (Nat.add_le_add_left hm1 _) hB.1, Nat.le_trans (Nat.add_le_add_left hs1 _) hB.2⟩) (fun S1 hf H locs cells slots hH hB => ?_)
    exact q_retV X hH hr hlk hf (Nat.le_trans (Nat.le_add_right _ _) hB.1) (Nat.le_trans (Nat.le_add_right _ _) hB.2) dJ4_setLength_d00df_5
  exact main s.heap [] ls 0 0 mc ms hf hH hl ⟨by omega, by omega⟩
-- J0_charAt_5068e_p
def f_J0_charAt_5068e_p (S : PS) (a0 : Nat) (a1 : Int32) (post : Int32 → PS → Prop) : Prop :=
  isO S a0 0 (
  f_J0_isLatin1_aae02_p S a0 fun v2 S1 => (
  if v2 = 0 then
    False
  else
    gR S1 a0 0 0 fun v4 => (
    f_J1_charAt_3b067_p S1 v4 a1 fun v6 S5 => (
    nZ .char v6 (post v6 S5)))))
abbrev rm_J0_charAt_5068e_p : Room := { frames := 3, cells := 0, slots := 0, locals := 64 }
set_option maxHeartbeats 4000000 in
set_option maxRecDepth 100000 in
theorem c_J0_charAt_5068e_p (l : Launch) (D : va_G) (cy : Nat → ClassId) (G : p_GT) (hG : p_ok G) (hGC : ∀ (A : Nat → Prop) (U : State) (H : Heap), G A U H → gC A U H) (hGF : ∀ (A : Nat → Prop) (U : State) (H : Heap), G A U H → gF A U H) (S : PS) (a0 : Nat) (a1 : Int32) (post : Int32 → PS → Prop) (sz : Nat) (hf : f_J0_charAt_5068e_p S a0 a1 post) : p_Mi l D cy G S sz yJ0_charAt_5068e (Cond.code yJ0_charAt_5068e cJ0_charAt_5068e 2 (some .char) :: wG) rm_J0_charAt_5068e_p [.ref a0, .int a1] 0 0 post := by
  refine q_start hG (Qc := fun A => va_Qi post (p_Post D cy A) A) mf_J0_charAt_5068e (Nat.le_of_ble_eq_true rfl) (own := RJ0) rfl ?_
  intro p e s m below meth c A X hr hlk hnm ls hl hH
  have hx := X.1.1
  have hb := X.1.2.1
  replace hl : lv_has ls 2 [(0, .ref a0), (1, .int a1)] := hl
  obtain ⟨H, hHe⟩ : ∃ H, H = s.heap := ⟨_, rfl⟩
  obtain ⟨locs, hlo⟩ : ∃ locs : List Loc, locs = [] := ⟨_, rfl⟩
  rw [← hHe, ← hlo] at hH
  show W p l e rm_J0_charAt_5068e_p s m [.ref a0, .int a1].toArray below meth c s.heap [] 0 0 _ _
  rw [← hHe, ← hlo]
  refine lv_aload_n hx hb dJ0_charAt_5068e_0 rfl (lv_at hl 0 rfl) ?_
  obtain ⟨hb1, hb2, hf⟩ := hf
  refine q_backI0 X hH (q_runV [] [] X hH hl (c_J0_isLatin1_aae02_p l D cy G X.2.2.2.1 hGC S a0 _ _ hf) mf_J0_isLatin1_aae02 mv_J0_isLatin1_aae02 tw_1194 ⟨Nat.le_of_ble_eq_true rfl, Nat.le_of_ble_eq_true rfl⟩ hb1 hb2 (T := TJ0) (N := 4) rfl rfl (Nat.le_of_ble_eq_true rfl) dJ0_charAt_5068e_1 ⟨Nat.le_of_ble_eq_true rfl, Nat.le_of_ble_eq_true rfl⟩) (fun v2 S1 hf H locs hH => ?_)
  refine lv_if_eq (tgt := 16) hx hb dJ0_charAt_5068e_4 (by decide) (fun c3 => ?_) (fun c3 => ?_)
  · have hf := (if_pos c3).mp hf
    exact hf.elim
  · have hf := (if_neg c3).mp hf
    refine lv_aload_n hx hb dJ0_charAt_5068e_7 rfl (lv_at hl 0 rfl) ?_
    refine q_getR (T := TJ0) (N := 4) X hH hf iw_J0 rfl (by decide) tw_1283 (fun _ h => h) dJ0_charAt_5068e_8 (fun v4 hf => ?_)
    refine lv_iload_n hx hb dJ0_charAt_5068e_11 rfl (lv_at hl 1 rfl) ?_
    refine q_backI0 X hH (q_runS [.ref v4, .int a1] [] X hH hl (c_J1_charAt_3b067_p l D cy G X.2.2.2.1 hGF S1 v4 a1 _ _ hf) mf_J1_charAt_3b067 tw_1199 tw_1198 ⟨Nat.le_of_ble_eq_true rfl, Nat.le_of_ble_eq_true rfl⟩ rfl (Nat.le_of_ble_eq_true rfl) dJ0_charAt_5068e_12 ⟨Nat.le_of_ble_eq_true rfl, Nat.le_of_ble_eq_true rfl⟩) (fun v6 S5 hf H locs hH => ?_)
    exact q_retZ X hH hr hlk hf (Nat.zero_le _) (Nat.zero_le _) dJ0_charAt_5068e_15
-- J5_append_cf1ce_p
def f_J5_append_cf1ce_p (S : PS) (a0 : Nat) (a1 : Nat) (bc bs : Nat) (post : Nat → PS → Prop) : Prop :=
  isO S a1 0 (
  f_J0_length_8abf5_p S a1 fun v2 S1 => (
  gI S1 a0 1 3 fun v3 => (
  isO S1 a0 1 (
  ∃ mc5 ms5 : Nat, mc5 ≤ bc ∧ ms5 ≤ bs ∧ (f_J5_ensureCapacityInternal_d00df S1 a0 (v3 + v2) mc5 ms5 fun S4 => (
  gI S4 a0 1 3 fun v7 => (
  isO S4 a0 1 (
  f_J5_putStringAt_47b60_p S4 a0 v7 a1 fun S8 => (
  gI S8 a0 1 3 fun v10 => (
  pV S8 a0 1 3 (.int (v10 + v2)) fun S11 => (
  post a0 S11)))))))))))
abbrev rm_J5_append_cf1ce_p (mc ms : Nat) : Room := { frames := 4, cells := mc, slots := ms, locals := 105 }
set_option maxHeartbeats 4000000 in
set_option maxRecDepth 100000 in
theorem c_J5_append_cf1ce_p (l : Launch) (D : va_G) (cy : Nat → ClassId) (G : p_GT) (hG : p_ok G) (hGC : ∀ (A : Nat → Prop) (U : State) (H : Heap), G A U H → gC A U H) (hGU : ∀ (A : Nat → Prop) (U : State) (H : Heap), G A U H → gU A U H) (S : PS) (a0 : Nat) (a1 : Nat) (mc ms : Nat) (post : Nat → PS → Prop) (sz : Nat) (hf : f_J5_append_cf1ce_p S a0 a1 mc ms post) : p_Mr l D cy G S sz yJ5_append_cf1ce (Cond.code yJ5_append_cf1ce cJ5_append_cf1ce 3 (some (.object "java/lang/AbstractStringBuilder")) :: wG) (rm_J5_append_cf1ce_p mc ms) [.ref a0, .ref a1] mc ms post := by
  refine q_start hG (Qc := fun A => p_Qr D cy post A) mf_J5_append_cf1ce (Nat.le_of_ble_eq_true rfl) (own := RJ5) rfl ?_
  intro p e s m below meth c A X hr hlk hnm ls hl hH
  have hx := X.1.1
  have hb := X.1.2.1
  replace hl : lv_has ls 3 [(0, .ref a0), (1, .ref a1)] := hl
  have main : ∀ (H : Heap) (locs : List Loc) (ls : Array Slot) (cells slots bc bs : Nat), f_J5_append_cf1ce_p S a0 a1 bc bs post → p_H D cy S A s H locs → lv_has ls 3 [(0, .ref a0), (1, .ref a1)] → cells + bc ≤ mc ∧ slots + bs ≤ ms → W p l e (rm_J5_append_cf1ce_p mc ms) s m [.ref a0, .ref a1].toArray below meth c H locs cells slots (MQ below (p_Qr D cy post A) [.ref a0, .ref a1].toArray s mc ms A) (F0 m 0 ls []) := by
    intro H locs ls cells slots bc bs hf hH hl hB
    refine lv_aload_n hx hb dJ5_append_cf1ce_0 rfl (lv_at hl 1 rfl) ?_
    refine lv_ifnonnull (tgt := 9) hx hb dJ5_append_cf1ce_1 (by decide) ?_
    refine lv_aload_n hx hb dJ5_append_cf1ce_9 rfl (lv_at hl 1 rfl) ?_
    obtain ⟨hb1, hb2, hf⟩ := hf
    refine q_backI0 X hH (q_runV [] [] X hH hl (c_J0_length_8abf5_p l D cy G X.2.2.2.1 hGC S a1 _ _ hf) mf_J0_length_8abf5 mv_J0_length_8abf5 tw_1227 ⟨Nat.le_of_ble_eq_true rfl, Nat.le_of_ble_eq_true rfl⟩ hb1 hb2 (T := TJ0) (N := 4) rfl rfl (Nat.le_of_ble_eq_true rfl) dJ5_append_cf1ce_10 ⟨Nat.le_trans (Nat.le_add_right _ _) hB.1, Nat.le_trans (Nat.le_add_right _ _) hB.2⟩) (fun v2 S1 hf H locs hH => ?_)
    refine lv_istore_n (lv' := [(2, .int v2), (0, .ref a0), (1, .ref a1)]) hx hb dJ5_append_cf1ce_13 rfl hl (by decide) rfl (fun ls hl => ?_)
    refine lv_aload_n hx hb dJ5_append_cf1ce_14 rfl (lv_at hl 1 rfl) ?_
    refine lv_aload_n hx hb dJ5_append_cf1ce_15 rfl (lv_at hl 1 rfl) ?_
    refine q_getI (T := TJ4) (N := 4) X hH hf iw_J4 rfl (by decide) tw_199 (fun _ h => h) dJ5_append_cf1ce_16 (fun v3 hf => ?_)
    refine lv_iload_n hx hb dJ5_append_cf1ce_19 rfl (lv_at hl 0 rfl) ?_
    refine lv_iadd hx hb dJ5_append_cf1ce_20 ?_
    obtain ⟨hb1, hb2, hf⟩ := hf
    obtain ⟨mc5, ms5, hm1, hs1, hf⟩ := hf
    refine q_backVB X hH hB hm1 hs1 (q_runU [.int (v3 + v2)] [] X hH hl (c_J5_ensureCapacityInternal_d00df l D cy G X.2.2.2.1 hGU S1 a0 (v3 + v2) mc5 ms5 _ _ hf) mf_J5_ensureCapacityInternal_d00df ⟨tw_675, tw_1301⟩ (va_Nw.use rfl (hGU _ _ _ X.2.2.2.2).1) tw_673 ⟨Nat.le_of_ble_eq_true rfl, Nat.le_of_ble_eq_true rfl⟩ hb1 hb2 rfl (Nat.le_of_ble_eq_true rfl) dJ5_append_cf1ce_21 ⟨Nat.le_trans (Nat.add_le_add_left hm1 _) hB.1, Nat.le_trans (Nat.add_le_add_left hs1 _) hB.2⟩) (fun S4 hf H locs cells slots hH hB => ?_)
    refine lv_aload_n hx hb dJ5_append_cf1ce_24 rfl (lv_at hl 1 rfl) ?_
    refine lv_aload_n hx hb dJ5_append_cf1ce_25 rfl (lv_at hl 1 rfl) ?_
    refine q_getI (T := TJ4) (N := 4) X hH hf iw_J4 rfl (by decide) tw_199 (fun _ h => h) dJ5_append_cf1ce_26 (fun v7 hf => ?_)
    refine lv_aload_n hx hb dJ5_append_cf1ce_29 rfl (lv_at hl 2 rfl) ?_
    obtain ⟨hb1, hb2, hf⟩ := hf
    refine q_backV0 X hH (q_runU [.int v7, .ref a1] [] X hH hl (c_J5_putStringAt_47b60_p l D cy G X.2.2.2.1 hGC hGU S4 a0 v7 a1 _ _ hf) mf_J5_putStringAt_47b60 ⟨tw_1230, tw_1310⟩ (va_Nw.use rfl (hGU _ _ _ X.2.2.2.2).2.2.2) tw_1228 ⟨Nat.le_of_ble_eq_true rfl, Nat.le_of_ble_eq_true rfl⟩ hb1 hb2 rfl (Nat.le_of_ble_eq_true rfl) dJ5_append_cf1ce_30 ⟨Nat.le_trans (Nat.le_add_right _ _) hB.1, Nat.le_trans (Nat.le_add_right _ _) hB.2⟩) (fun S8 hf H locs hH => ?_)
    refine lv_aload_n hx hb dJ5_append_cf1ce_33 rfl (lv_at hl 1 rfl) ?_
    refine lv_dup hx hb dJ5_append_cf1ce_34 rfl ?_
    refine q_getI (T := TJ4) (N := 4) X hH hf iw_J4 rfl (by decide) tw_199 (fun _ h => h) dJ5_append_cf1ce_35 (fun v10 hf => ?_)
    refine lv_iload_n hx hb dJ5_append_cf1ce_38 rfl (lv_at hl 0 rfl) ?_
    refine lv_iadd hx hb dJ5_append_cf1ce_39 ?_
    refine q_putV (T := TJ4) (N := 4) (ty0 := tyJ4) (ty := tyJ4 3) X hH hf iw_J4 tyJ4_ok nmJ4 rfl (by decide) tw_199 (fun _ h => h) rfl (tyJ4_ok 3 (by decide)) rfl rfl dJ5_append_cf1ce_40 (fun S11 hf H locs hH => ?_)
    refine lv_aload_n hx hb dJ5_append_cf1ce_43 rfl (lv_at hl 1 rfl) ?_
    exact q_retR X hH hr (Or.inl ⟨_, rfl⟩) hlk hf (Nat.le_trans (Nat.le_add_right _ _) hB.1) (Nat.le_trans (Nat.le_add_right _ _) hB.2) dJ5_append_cf1ce_44
  exact main s.heap [] ls 0 0 mc ms hf hH hl ⟨by omega, by omega⟩
-- J0_charAt_5068e_u
def f_J0_charAt_5068e_u (adK : Nat → Nat) (S : PS) (a0 : Nat) (a1 : Int32) (post : Int32 → PS → Prop) : Prop := (sK adK a0 fun _ => f_J0_charAt_5068e adK S a0 a1 post) ∨ isO S a0 0 (f_J0_charAt_5068e_p S a0 a1 post)
theorem u_J0_charAt_5068e {adK : Nat → Nat} {S : PS} {a0 : Nat} {a1 : Int32} {post : Int32 → PS → Prop} {R : Prop} (h : f_J0_charAt_5068e_u adK S a0 a1 post) (h1 : (sK adK a0 fun _ => f_J0_charAt_5068e adK S a0 a1 post) → R) (h2 : isO S a0 0 (f_J0_charAt_5068e_p S a0 a1 post) → R) : R := Or.elim h h1 h2
-- J5_append_cf1ce
def f_J5_append_cf1ce (adK : Nat → Nat) (S : PS) (a0 : Nat) (a1 : Nat) (bc bs : Nat) (post : Nat → PS → Prop) : Prop :=
  sK adK a1 fun k3 => (f_J0_length_8abf5 adK S a1 fun v2 S1 => (
  gI S1 a0 1 3 fun v4 => (
  isO S1 a0 1 (
  ∃ mc6 ms6 : Nat, mc6 ≤ bc ∧ ms6 ≤ bs ∧ (f_J5_ensureCapacityInternal_d00df S1 a0 (v4 + v2) mc6 ms6 fun S5 => (
  gI S5 a0 1 3 fun v8 => (
  isO S5 a0 1 (
  f_J5_putStringAt_47b60 adK S5 a0 v8 a1 fun S9 => (
  gI S9 a0 1 3 fun v11 => (
  pV S9 a0 1 3 (.int (v11 + v2)) fun S12 => (
  post a0 S12)))))))))))
abbrev rm_J5_append_cf1ce (mc ms : Nat) : Room := { frames := 4, cells := mc, slots := ms, locals := 105 }
set_option maxHeartbeats 4000000 in
set_option maxRecDepth 100000 in
theorem c_J5_append_cf1ce (l : Launch) (D : va_G) (cy : Nat → ClassId) (G : p_GT) (hG : p_ok G) (hGC : ∀ (A : Nat → Prop) (U : State) (H : Heap), G A U H → gC A U H) (adK adV : Nat → Nat) (hGK : ∀ (A : Nat → Prop) (U : State) (H : Heap), G A U H → gK adK adV A U H) (hGU : ∀ (A : Nat → Prop) (U : State) (H : Heap), G A U H → gU A U H) (S : PS) (a0 : Nat) (a1 : Nat) (mc ms : Nat) (post : Nat → PS → Prop) (sz : Nat) (hf : f_J5_append_cf1ce adK S a0 a1 mc ms post) : p_Mr l D cy G S sz yJ5_append_cf1ce (Cond.code yJ5_append_cf1ce cJ5_append_cf1ce 3 (some (.object "java/lang/AbstractStringBuilder")) :: wG) (rm_J5_append_cf1ce mc ms) [.ref a0, .ref a1] mc ms post := by
  refine q_start hG (Qc := fun A => p_Qr D cy post A) mf_J5_append_cf1ce (Nat.le_of_ble_eq_true rfl) (own := RJ5) rfl ?_
  intro p e s m below meth c A X hr hlk hnm ls hl hH
  have hx := X.1.1
  have hb := X.1.2.1
  replace hl : lv_has ls 3 [(0, .ref a0), (1, .ref a1)] := hl
  have main : ∀ (H : Heap) (locs : List Loc) (ls : Array Slot) (cells slots bc bs : Nat), f_J5_append_cf1ce adK S a0 a1 bc bs post → p_H D cy S A s H locs → lv_has ls 3 [(0, .ref a0), (1, .ref a1)] → cells + bc ≤ mc ∧ slots + bs ≤ ms → W p l e (rm_J5_append_cf1ce mc ms) s m [.ref a0, .ref a1].toArray below meth c H locs cells slots (MQ below (p_Qr D cy post A) [.ref a0, .ref a1].toArray s mc ms A) (F0 m 0 ls []) := by
    intro H locs ls cells slots bc bs hf hH hl hB
    refine lv_aload_n hx hb dJ5_append_cf1ce_0 rfl (lv_at hl 1 rfl) ?_
    refine lv_ifnonnull (tgt := 9) hx hb dJ5_append_cf1ce_1 (by decide) ?_
    refine lv_aload_n hx hb dJ5_append_cf1ce_9 rfl (lv_at hl 1 rfl) ?_
    obtain ⟨k3, hk3, hek3, hf⟩ := hf
    refine q_backI0 X hH (q_runK [] [] X hH hl (c_J0_length_8abf5 l D cy G X.2.2.2.1 hGC adK adV hGK S a1 _ _ hf) mf_J0_length_8abf5 mv_J0_length_8abf5 tw_1227 ⟨Nat.le_of_ble_eq_true rfl, Nat.le_of_ble_eq_true rfl⟩ (hGK _ _ _ X.2.2.2.2) hk3 hek3 rfl rfl (Nat.le_of_ble_eq_true rfl) dJ5_append_cf1ce_10 ⟨Nat.le_trans (Nat.le_add_right _ _) hB.1, Nat.le_trans (Nat.le_add_right _ _) hB.2⟩) (fun v2 S1 hf H locs hH => ?_)
    refine lv_istore_n (lv' := [(2, .int v2), (0, .ref a0), (1, .ref a1)]) hx hb dJ5_append_cf1ce_13 rfl hl (by decide) rfl (fun ls hl => ?_)
    refine lv_aload_n hx hb dJ5_append_cf1ce_14 rfl (lv_at hl 1 rfl) ?_
    refine lv_aload_n hx hb dJ5_append_cf1ce_15 rfl (lv_at hl 1 rfl) ?_
    refine q_getI (T := TJ4) (N := 4) X hH hf iw_J4 rfl (by decide) tw_199 (fun _ h => h) dJ5_append_cf1ce_16 (fun v4 hf => ?_)
    refine lv_iload_n hx hb dJ5_append_cf1ce_19 rfl (lv_at hl 0 rfl) ?_
    refine lv_iadd hx hb dJ5_append_cf1ce_20 ?_
    obtain ⟨hb1, hb2, hf⟩ := hf
    obtain ⟨mc6, ms6, hm1, hs1, hf⟩ := hf
    refine q_backVB X hH hB hm1 hs1 (q_runU [.int (v4 + v2)] [] X hH hl (c_J5_ensureCapacityInternal_d00df l D cy G X.2.2.2.1 hGU S1 a0 (v4 + v2) mc6 ms6 _ _ hf) mf_J5_ensureCapacityInternal_d00df ⟨tw_675, tw_1301⟩ (va_Nw.use rfl (hGU _ _ _ X.2.2.2.2).1) tw_673 ⟨Nat.le_of_ble_eq_true rfl, Nat.le_of_ble_eq_true rfl⟩ hb1 hb2 rfl (Nat.le_of_ble_eq_true rfl) dJ5_append_cf1ce_21 ⟨Nat.le_trans (Nat.add_le_add_left hm1 _) hB.1, Nat.le_trans (Nat.add_le_add_left hs1 _) hB.2⟩) (fun S5 hf H locs cells slots hH hB => ?_)
    refine lv_aload_n hx hb dJ5_append_cf1ce_24 rfl (lv_at hl 1 rfl) ?_
    refine lv_aload_n hx hb dJ5_append_cf1ce_25 rfl (lv_at hl 1 rfl) ?_
    refine q_getI (T := TJ4) (N := 4) X hH hf iw_J4 rfl (by decide) tw_199 (fun _ h => h) dJ5_append_cf1ce_26 (fun v8 hf => ?_)
    refine lv_aload_n hx hb dJ5_append_cf1ce_29 rfl (lv_at hl 2 rfl) ?_
    obtain ⟨hb1, hb2, hf⟩ := hf
    refine q_backV0 X hH (q_runU [.int v8, .ref a1] [] X hH hl (c_J5_putStringAt_47b60 l D cy G X.2.2.2.1 hGC adK adV hGK hGU S5 a0 v8 a1 _ _ hf) mf_J5_putStringAt_47b60 ⟨tw_1230, tw_1310⟩ (va_Nw.use rfl (hGU _ _ _ X.2.2.2.2).2.2.2) tw_1228 ⟨Nat.le_of_ble_eq_true rfl, Nat.le_of_ble_eq_true rfl⟩ hb1 hb2 rfl (Nat.le_of_ble_eq_true rfl) dJ5_append_cf1ce_30 ⟨Nat.le_trans (Nat.le_add_right _ _) hB.1, Nat.le_trans (Nat.le_add_right _ _) hB.2⟩) (fun S9 hf H locs hH => ?_)
    refine lv_aload_n hx hb dJ5_append_cf1ce_33 rfl (lv_at hl 1 rfl) ?_
    refine lv_dup hx hb dJ5_append_cf1ce_34 rfl ?_
    refine q_getI (T := TJ4) (N := 4) X hH hf iw_J4 rfl (by decide) tw_199 (fun _ h => h) dJ5_append_cf1ce_35 (fun v11 hf => ?_)
    refine lv_iload_n hx hb dJ5_append_cf1ce_38 rfl (lv_at hl 0 rfl) ?_
    refine lv_iadd hx hb dJ5_append_cf1ce_39 ?_
    refine q_putV (T := TJ4) (N := 4) (ty0 := tyJ4) (ty := tyJ4 3) X hH hf iw_J4 tyJ4_ok nmJ4 rfl (by decide) tw_199 (fun _ h => h) rfl (tyJ4_ok 3 (by decide)) rfl rfl dJ5_append_cf1ce_40 (fun S12 hf H locs hH => ?_)
    refine lv_aload_n hx hb dJ5_append_cf1ce_43 rfl (lv_at hl 1 rfl) ?_
    exact q_retR X hH hr (Or.inl ⟨_, rfl⟩) hlk hf (Nat.le_trans (Nat.le_add_right _ _) hB.1) (Nat.le_trans (Nat.le_add_right _ _) hB.2) dJ5_append_cf1ce_44
  exact main s.heap [] ls 0 0 mc ms hf hH hl ⟨by omega, by omega⟩
-- J0_init_81219_p
def f_J0_init_81219_p (S : PS) (a0 : Nat) (a1 : Nat) (bc bs : Nat) (post : PS → Prop) : Prop :=
  ∃ mc2 ms2 : Nat, mc2 ≤ bc ∧ ms2 ≤ bs ∧ (f_J0_init_db425_p S a0 a1 mc2 ms2 fun S1 => (
  post S1))
abbrev rm_J0_init_81219_p (mc ms : Nat) : Room := { frames := 4, cells := mc, slots := ms, locals := 130 }
set_option maxHeartbeats 4000000 in
set_option maxRecDepth 100000 in
theorem c_J0_init_81219_p (l : Launch) (D : va_G) (cy : Nat → ClassId) (G : p_GT) (hG : p_ok G) (hGC : ∀ (A : Nat → Prop) (U : State) (H : Heap), G A U H → gC A U H) (hst : l.stackTraces = false) (hGE : ∀ (A : Nat → Prop) (U : State) (H : Heap), G A U H → p_Ex A U H) (S : PS) (a0 : Nat) (a1 : Nat) (mc ms : Nat) (post : PS → Prop) (sz : Nat) (hf : f_J0_init_81219_p S a0 a1 mc ms post) : p_Mv l D cy G S sz yJ0_init_81219 (Cond.code yJ0_init_81219 cJ0_init_81219 2 none :: wG) (rm_J0_init_81219_p mc ms) [.ref a0, .ref a1] mc ms post := by
  refine q_start hG (Qc := fun A => va_Qv post (p_Post D cy A) A) mf_J0_init_81219 (Nat.le_of_ble_eq_true rfl) (own := RJ0) rfl ?_
  intro p e s m below meth c A X hr hlk hnm ls hl hH
  have hx := X.1.1
  have hb := X.1.2.1
  replace hl : lv_has ls 2 [(0, .ref a0), (1, .ref a1)] := hl
  have main : ∀ (H : Heap) (locs : List Loc) (ls : Array Slot) (cells slots bc bs : Nat), f_J0_init_81219_p S a0 a1 bc bs post → p_H D cy S A s H locs → lv_has ls 2 [(0, .ref a0), (1, .ref a1)] → cells + bc ≤ mc ∧ slots + bs ≤ ms → W p l e (rm_J0_init_81219_p mc ms) s m [.ref a0, .ref a1].toArray below meth c H locs cells slots (MQ below (va_Qv post (p_Post D cy A) A) [.ref a0, .ref a1].toArray s mc ms A) (F0 m 0 ls []) := by
    intro H locs ls cells slots bc bs hf hH hl hB
    refine lv_aload_n hx hb dJ0_init_81219_0 rfl (lv_at hl 0 rfl) ?_
    refine lv_aload_n hx hb dJ0_init_81219_1 rfl (lv_at hl 1 rfl) ?_
    refine lv_null hx hb dJ0_init_81219_2 ?_
    obtain ⟨mc2, ms2, hm1, hs1, hf⟩ := hf
    refine q_backVB X hH hB hm1 hs1 (q_runI [.ref a1, .null] [] X hH hl (c_J0_init_db425_p l D cy G X.2.2.2.1 hGC hst hGE S a0 a1 mc2 ms2 _ _ hf) mf_J0_init_db425 tw_1254 tw_1253 ⟨Nat.le_of_ble_eq_true rfl, Nat.le_of_ble_eq_true rfl⟩ rfl (Nat.le_of_ble_eq_true rfl) dJ0_init_81219_3 ⟨Nat.le_trans (Nat.add_le_add_left hm1 _) hB.1, Nat.le_trans (Nat.add_le_add_left hs1 _) hB.2⟩) (fun S1 hf H locs cells slots hH hB => ?_)
    exact q_retV X hH hr hlk hf (Nat.le_trans (Nat.le_add_right _ _) hB.1) (Nat.le_trans (Nat.le_add_right _ _) hB.2) dJ0_init_81219_6
  exact main s.heap [] ls 0 0 mc ms hf hH hl ⟨by omega, by omega⟩
-- J4_append_15ec4
def f_J4_append_15ec4 (adK : Nat → Nat) (S : PS) (a0 : Nat) (a1 : Nat) (bc bs : Nat) (post : Nat → PS → Prop) : Prop :=
  isO S a0 1 (
  ∃ mc2 ms2 : Nat, mc2 ≤ bc ∧ ms2 ≤ bs ∧ (f_J5_append_cf1ce adK S a0 a1 mc2 ms2 fun v3 S1 => (
  post a0 S1)))
abbrev rm_J4_append_15ec4 (mc ms : Nat) : Room := { frames := 5, cells := mc, slots := ms, locals := 127 }
set_option maxHeartbeats 4000000 in
set_option maxRecDepth 100000 in
theorem c_J4_append_15ec4 (l : Launch) (D : va_G) (cy : Nat → ClassId) (G : p_GT) (hG : p_ok G) (hGC : ∀ (A : Nat → Prop) (U : State) (H : Heap), G A U H → gC A U H) (adK adV : Nat → Nat) (hGK : ∀ (A : Nat → Prop) (U : State) (H : Heap), G A U H → gK adK adV A U H) (hGU : ∀ (A : Nat → Prop) (U : State) (H : Heap), G A U H → gU A U H) (S : PS) (a0 : Nat) (a1 : Nat) (mc ms : Nat) (post : Nat → PS → Prop) (sz : Nat) (hf : f_J4_append_15ec4 adK S a0 a1 mc ms post) : p_Mr l D cy G S sz yJ4_append_15ec4 (Cond.code yJ4_append_15ec4 cJ4_append_15ec4 2 (some (.object "java/lang/StringBuilder")) :: wG) (rm_J4_append_15ec4 mc ms) [.ref a0, .ref a1] mc ms post := by
  refine q_start hG (Qc := fun A => p_Qr D cy post A) mf_J4_append_15ec4 (Nat.le_of_ble_eq_true rfl) (own := RJ4) rfl ?_
  intro p e s m below meth c A X hr hlk hnm ls hl hH
  have hx := X.1.1
  have hb := X.1.2.1
  replace hl : lv_has ls 2 [(0, .ref a0), (1, .ref a1)] := hl
  have main : ∀ (H : Heap) (locs : List Loc) (ls : Array Slot) (cells slots bc bs : Nat), f_J4_append_15ec4 adK S a0 a1 bc bs post → p_H D cy S A s H locs → lv_has ls 2 [(0, .ref a0), (1, .ref a1)] → cells + bc ≤ mc ∧ slots + bs ≤ ms → W p l e (rm_J4_append_15ec4 mc ms) s m [.ref a0, .ref a1].toArray below meth c H locs cells slots (MQ below (p_Qr D cy post A) [.ref a0, .ref a1].toArray s mc ms A) (F0 m 0 ls []) := by
    intro H locs ls cells slots bc bs hf hH hl hB
    refine lv_aload_n hx hb dJ4_append_15ec4_0 rfl (lv_at hl 0 rfl) ?_
    refine lv_aload_n hx hb dJ4_append_15ec4_1 rfl (lv_at hl 1 rfl) ?_
    obtain ⟨hb1, hb2, hf⟩ := hf
    obtain ⟨mc2, ms2, hm1, hs1, hf⟩ := hf
    refine q_backRB X hH hB hm1 hs1 (q_runSU [.ref a1] [] X hH hl (c_J5_append_cf1ce l D cy G X.2.2.2.1 hGC adK adV hGK hGU S a0 a1 mc2 ms2 _ _ hf) mf_J5_append_cf1ce tw_1218 tw_1308 tw_208 (by decide +kernel) tw_1217 ⟨Nat.le_of_ble_eq_true rfl, Nat.le_of_ble_eq_true rfl⟩ hb1 hb2 rfl (Nat.le_of_ble_eq_true rfl) dJ4_append_15ec4_2 ⟨Nat.le_trans (Nat.add_le_add_left hm1 _) hB.1, Nat.le_trans (Nat.add_le_add_left hs1 _) hB.2⟩) (fun v3 S1 hf H locs cells slots hH hB => ?_)
    refine lv_pop hx hb dJ4_append_15ec4_5 rfl ?_
    refine lv_aload_n hx hb dJ4_append_15ec4_6 rfl (lv_at hl 0 rfl) ?_
    exact q_retR X hH hr (Or.inl ⟨_, rfl⟩) hlk hf (Nat.le_trans (Nat.le_add_right _ _) hB.1) (Nat.le_trans (Nat.le_add_right _ _) hB.2) dJ4_append_15ec4_7
  exact main s.heap [] ls 0 0 mc ms hf hH hl ⟨by omega, by omega⟩
-- J4_toString_0e30d
def f_J4_toString_0e30d (S : PS) (a0 : Nat) (bc bs : Nat) (post : Nat → PS → Prop) : Prop :=
  nO S 0 [.null, .int 0, .int 0, .int 0] 4 bc bs fun q1 S2 bc3 bs4 => (
  ∃ mc6 ms6 : Nat, mc6 ≤ bc3 ∧ ms6 ≤ bs4 ∧ (f_J0_init_81219_p S2 q1 a0 mc6 ms6 fun S5 => (
  post q1 S5)))
abbrev rm_J4_toString_0e30d (mc ms : Nat) : Room := { frames := 5, cells := mc, slots := ms, locals := 151 }
set_option maxHeartbeats 4000000 in
set_option maxRecDepth 100000 in
theorem c_J4_toString_0e30d (l : Launch) (D : va_G) (cy : Nat → ClassId) (G : p_GT) (hG : p_ok G) (hGC : ∀ (A : Nat → Prop) (U : State) (H : Heap), G A U H → gC A U H) (hst : l.stackTraces = false) (hGE : ∀ (A : Nat → Prop) (U : State) (H : Heap), G A U H → p_Ex A U H) (S : PS) (a0 : Nat) (mc ms : Nat) (post : Nat → PS → Prop) (sz : Nat) (hf : f_J4_toString_0e30d S a0 mc ms post) : p_Mr l D cy G S sz yJ4_toString_0e30d (Cond.code yJ4_toString_0e30d cJ4_toString_0e30d 1 (some (.object "java/lang/String")) :: wG) (rm_J4_toString_0e30d mc ms) [.ref a0] mc ms post := by
  refine q_start hG (Qc := fun A => p_Qr D cy post A) mf_J4_toString_0e30d (Nat.le_of_ble_eq_true rfl) (own := RJ4) rfl ?_
  intro p e s m below meth c A X hr hlk hnm ls hl hH
  have hx := X.1.1
  have hb := X.1.2.1
  replace hl : lv_has ls 1 [(0, .ref a0)] := hl
  have main : ∀ (H : Heap) (locs : List Loc) (ls : Array Slot) (cells slots bc bs : Nat), f_J4_toString_0e30d S a0 bc bs post → p_H D cy S A s H locs → lv_has ls 1 [(0, .ref a0)] → cells + bc ≤ mc ∧ slots + bs ≤ ms → W p l e (rm_J4_toString_0e30d mc ms) s m [.ref a0].toArray below meth c H locs cells slots (MQ below (p_Qr D cy post A) [.ref a0].toArray s mc ms A) (F0 m 0 ls []) := by
    intro H locs ls cells slots bc bs hf hH hl hB
    refine q_new (T := TJ0) (N := 4) X hH hB hf iw_J0 tyJ0 tyJ0_ok rfl tw_1248 tw_1249 tw_39 (fun j hj => by rcases (show j = 0 ∨ j = 1 ∨ j = 2 ∨ j = 3 by omega) with rfl | rfl | rfl | rfl <;> rfl) dJ4_toString_0e30d_0 (fun q1 S2 bc3 bs4 hf H locs cells slots hH hB => ?_)
    refine lv_dup hx hb dJ4_toString_0e30d_3 rfl ?_
    refine lv_aload_n hx hb dJ4_toString_0e30d_4 rfl (lv_at hl 0 rfl) ?_
    obtain ⟨mc6, ms6, hm1, hs1, hf⟩ := hf
    refine q_backVB X hH hB hm1 hs1 (q_runI [.ref a0] [.ref q1] X hH hl (c_J0_init_81219_p l D cy G X.2.2.2.1 hGC hst hGE S2 q1 a0 mc6 ms6 _ _ hf) mf_J0_init_81219 tw_1251 tw_1250 ⟨Nat.le_of_ble_eq_true rfl, Nat.le_of_ble_eq_true rfl⟩ rfl (Nat.le_of_ble_eq_true rfl) dJ4_toString_0e30d_5 ⟨Nat.le_trans (Nat.add_le_add_left hm1 _) hB.1, Nat.le_trans (Nat.add_le_add_left hs1 _) hB.2⟩) (fun S5 hf H locs cells slots hH hB => ?_)
    exact q_retR X hH hr (Or.inl ⟨_, rfl⟩) hlk hf (Nat.le_trans (Nat.le_add_right _ _) hB.1) (Nat.le_trans (Nat.le_add_right _ _) hB.2) dJ4_toString_0e30d_8
  exact main s.heap [] ls 0 0 mc ms hf hH hl ⟨by omega, by omega⟩
-- J4_append_15ec4_p
def f_J4_append_15ec4_p (S : PS) (a0 : Nat) (a1 : Nat) (bc bs : Nat) (post : Nat → PS → Prop) : Prop :=
  isO S a0 1 (
  ∃ mc2 ms2 : Nat, mc2 ≤ bc ∧ ms2 ≤ bs ∧ (f_J5_append_cf1ce_p S a0 a1 mc2 ms2 fun v3 S1 => (
  post a0 S1)))
abbrev rm_J4_append_15ec4_p (mc ms : Nat) : Room := { frames := 5, cells := mc, slots := ms, locals := 127 }
set_option maxHeartbeats 4000000 in
set_option maxRecDepth 100000 in
theorem c_J4_append_15ec4_p (l : Launch) (D : va_G) (cy : Nat → ClassId) (G : p_GT) (hG : p_ok G) (hGC : ∀ (A : Nat → Prop) (U : State) (H : Heap), G A U H → gC A U H) (hGU : ∀ (A : Nat → Prop) (U : State) (H : Heap), G A U H → gU A U H) (S : PS) (a0 : Nat) (a1 : Nat) (mc ms : Nat) (post : Nat → PS → Prop) (sz : Nat) (hf : f_J4_append_15ec4_p S a0 a1 mc ms post) : p_Mr l D cy G S sz yJ4_append_15ec4 (Cond.code yJ4_append_15ec4 cJ4_append_15ec4 2 (some (.object "java/lang/StringBuilder")) :: wG) (rm_J4_append_15ec4_p mc ms) [.ref a0, .ref a1] mc ms post := by
  refine q_start hG (Qc := fun A => p_Qr D cy post A) mf_J4_append_15ec4 (Nat.le_of_ble_eq_true rfl) (own := RJ4) rfl ?_
  intro p e s m below meth c A X hr hlk hnm ls hl hH
  have hx := X.1.1
  have hb := X.1.2.1
  replace hl : lv_has ls 2 [(0, .ref a0), (1, .ref a1)] := hl
  have main : ∀ (H : Heap) (locs : List Loc) (ls : Array Slot) (cells slots bc bs : Nat), f_J4_append_15ec4_p S a0 a1 bc bs post → p_H D cy S A s H locs → lv_has ls 2 [(0, .ref a0), (1, .ref a1)] → cells + bc ≤ mc ∧ slots + bs ≤ ms → W p l e (rm_J4_append_15ec4_p mc ms) s m [.ref a0, .ref a1].toArray below meth c H locs cells slots (MQ below (p_Qr D cy post A) [.ref a0, .ref a1].toArray s mc ms A) (F0 m 0 ls []) := by
    intro H locs ls cells slots bc bs hf hH hl hB
    refine lv_aload_n hx hb dJ4_append_15ec4_0 rfl (lv_at hl 0 rfl) ?_
    refine lv_aload_n hx hb dJ4_append_15ec4_1 rfl (lv_at hl 1 rfl) ?_
    obtain ⟨hb1, hb2, hf⟩ := hf
    obtain ⟨mc2, ms2, hm1, hs1, hf⟩ := hf
    refine q_backRB X hH hB hm1 hs1 (q_runSU [.ref a1] [] X hH hl (c_J5_append_cf1ce_p l D cy G X.2.2.2.1 hGC hGU S a0 a1 mc2 ms2 _ _ hf) mf_J5_append_cf1ce tw_1218 tw_1308 tw_208 (by decide +kernel) tw_1217 ⟨Nat.le_of_ble_eq_true rfl, Nat.le_of_ble_eq_true rfl⟩ hb1 hb2 rfl (Nat.le_of_ble_eq_true rfl) dJ4_append_15ec4_2 ⟨Nat.le_trans (Nat.add_le_add_left hm1 _) hB.1, Nat.le_trans (Nat.add_le_add_left hs1 _) hB.2⟩) (fun v3 S1 hf H locs cells slots hH hB => ?_)
    refine lv_pop hx hb dJ4_append_15ec4_5 rfl ?_
    refine lv_aload_n hx hb dJ4_append_15ec4_6 rfl (lv_at hl 0 rfl) ?_
    exact q_retR X hH hr (Or.inl ⟨_, rfl⟩) hlk hf (Nat.le_trans (Nat.le_add_right _ _) hB.1) (Nat.le_trans (Nat.le_add_right _ _) hB.2) dJ4_append_15ec4_7
  exact main s.heap [] ls 0 0 mc ms hf hH hl ⟨by omega, by omega⟩
-- J4_append_15ec4_u
def f_J4_append_15ec4_u (adK : Nat → Nat) (S : PS) (a0 : Nat) (a1 : Nat) (bc bs : Nat) (post : Nat → PS → Prop) : Prop := f_J4_append_15ec4 adK S a0 a1 bc bs post ∨ f_J4_append_15ec4_p S a0 a1 bc bs post
theorem c_J4_append_15ec4_u (l : Launch) (D : va_G) (cy : Nat → ClassId) (G : p_GT) (hG : p_ok G) (hGC : ∀ (A : Nat → Prop) (U : State) (H : Heap), G A U H → gC A U H) (adK adV : Nat → Nat) (hGK : ∀ (A : Nat → Prop) (U : State) (H : Heap), G A U H → gK adK adV A U H) (hGU : ∀ (A : Nat → Prop) (U : State) (H : Heap), G A U H → gU A U H) (S : PS) (a0 : Nat) (a1 : Nat) (mc ms : Nat) (post : Nat → PS → Prop) (sz : Nat) (hf : f_J4_append_15ec4_u adK S a0 a1 mc ms post) : p_Mr l D cy G S sz yJ4_append_15ec4 (Cond.code yJ4_append_15ec4 cJ4_append_15ec4 2 (some (.object "java/lang/StringBuilder")) :: wG) (rm_J4_append_15ec4 mc ms) [.ref a0, .ref a1] mc ms post := Or.elim hf (fun hf => c_J4_append_15ec4 l D cy G hG hGC adK adV hGK hGU S a0 a1 mc ms post sz hf) (fun hf => c_J4_append_15ec4_p l D cy G hG hGC hGU S a0 a1 mc ms post sz hf)
