-- J5_append_c97b9
def f_J5_append_c97b9 (S : PS) (a0 : Nat) (a1 : Int32) (bc bs : Nat) (post : Nat → PS → Prop) : Prop :=
  gI S a0 1 3 fun v1 => (
  f_J6_stringSize_0f7a4 S a1 fun v3 S2 => (
  isO S2 a0 1 (
  ∃ mc5 ms5 : Nat, mc5 ≤ bc ∧ ms5 ≤ bs ∧ (f_J5_ensureCapacityInternal_d00df S2 a0 (v1 + v3) mc5 ms5 fun S4 => (
  isO S4 a0 1 (
  f_J5_isLatin1_aae02 S4 a0 fun v8 S7 => (
  if v8 = 0 then
    False
  else
    gR S7 a0 1 0 fun v10 => (
    f_J6_getChars_ba4f3 S7 a1 (v1 + v3) v10 fun v12 S11 => (
    pV S11 a0 1 3 (.int (v1 + v3)) fun S13 => (
    post a0 S13))))))))))
abbrev rm_J5_append_c97b9 (mc ms : Nat) : Room := { frames := 4, cells := mc, slots := ms, locals := 104 }
set_option maxHeartbeats 4000000 in
set_option maxRecDepth 100000 in
theorem c_J5_append_c97b9 (l : Launch) (D : va_G) (cy : Nat → ClassId) (G : p_GT) (hG : p_ok G) (hGC : ∀ (A : Nat → Prop) (U : State) (H : Heap), G A U H → gC A U H) (dT dO : Nat) (hGT : ∀ (A : Nat → Prop) (U : State) (H : Heap), G A U H → gT dT dO A U H) (hGU : ∀ (A : Nat → Prop) (U : State) (H : Heap), G A U H → gU A U H) (S : PS) (a0 : Nat) (a1 : Int32) (mc ms : Nat) (post : Nat → PS → Prop) (sz : Nat) (hf : f_J5_append_c97b9 S a0 a1 mc ms post) : p_Mr l D cy G S sz yJ5_append_c97b9 (Cond.code yJ5_append_c97b9 cJ5_append_c97b9 4 (some (.object "java/lang/AbstractStringBuilder")) :: wG) (rm_J5_append_c97b9 mc ms) [.ref a0, .int a1] mc ms post := by
  refine q_start hG (Qc := fun A => p_Qr D cy post A) mf_J5_append_c97b9 (Nat.le_of_ble_eq_true rfl) (own := RJ5) rfl ?_
  intro p e s m below meth c A X hr hlk hnm ls hl hH
  have hx := X.1.1
  have hb := X.1.2.1
  replace hl : lv_has ls 4 [(0, .ref a0), (1, .int a1)] := hl
  have main : ∀ (H : Heap) (locs : List Loc) (ls : Array Slot) (cells slots bc bs : Nat), f_J5_append_c97b9 S a0 a1 bc bs post → p_H D cy S A s H locs → lv_has ls 4 [(0, .ref a0), (1, .int a1)] → cells + bc ≤ mc ∧ slots + bs ≤ ms → W p l e (rm_J5_append_c97b9 mc ms) s m [.ref a0, .int a1].toArray below meth c H locs cells slots (MQ below (p_Qr D cy post A) [.ref a0, .int a1].toArray s mc ms A) (F0 m 0 ls []) := by
    intro H locs ls cells slots bc bs hf hH hl hB
    refine lv_aload_n hx hb dJ5_append_c97b9_0 rfl (lv_at hl 0 rfl) ?_
    refine q_getI (T := TJ4) (N := 4) X hH hf iw_J4 rfl (by decide) tw_265 (fun _ h => h) dJ5_append_c97b9_1 (fun v1 hf => ?_)
    refine lv_istore_n (lv' := [(2, .int v1), (0, .ref a0), (1, .int a1)]) hx hb dJ5_append_c97b9_4 rfl hl (by decide) rfl (fun ls hl => ?_)
    refine lv_iload_n hx hb dJ5_append_c97b9_5 rfl (lv_at hl 0 rfl) ?_
    refine lv_iload_n hx hb dJ5_append_c97b9_6 rfl (lv_at hl 2 rfl) ?_
    refine q_backI0 X hH (q_runS [.int a1] [.int v1] X hH hl (c_J6_stringSize_0f7a4 l D cy G X.2.2.2.1 S a1 _ _ hf) mf_J6_stringSize_0f7a4 tw_698 tw_697 ⟨Nat.le_of_ble_eq_true rfl, Nat.le_of_ble_eq_true rfl⟩ rfl (Nat.le_of_ble_eq_true rfl) dJ5_append_c97b9_7 ⟨Nat.le_trans (Nat.le_add_right _ _) hB.1, Nat.le_trans (Nat.le_add_right _ _) hB.2⟩) (fun v3 S2 hf H locs hH => ?_)
    refine lv_iadd hx hb dJ5_append_c97b9_10 ?_
    refine lv_istore_n (lv' := [(3, .int (v1 + v3)), (2, .int v1), (0, .ref a0), (1, .int a1)]) hx hb dJ5_append_c97b9_11 rfl hl (by decide) rfl (fun ls hl => ?_)
    refine lv_aload_n hx hb dJ5_append_c97b9_12 rfl (lv_at hl 2 rfl) ?_
    refine lv_iload_n hx hb dJ5_append_c97b9_13 rfl (lv_at hl 0 rfl) ?_
    obtain ⟨hb1, hb2, hf⟩ := hf
    obtain ⟨mc5, ms5, hm1, hs1, hf⟩ := hf
    refine q_backVB X hH hB hm1 hs1 (q_runU [.int (v1 + v3)] [] X hH hl (c_J5_ensureCapacityInternal_d00df l D cy G X.2.2.2.1 hGU S2 a0 (v1 + v3) mc5 ms5 _ _ hf) mf_J5_ensureCapacityInternal_d00df ⟨tw_587, tw_2105⟩ (va_Nw.use rfl (hGU _ _ _ X.2.2.2.2).1) tw_585 ⟨Nat.le_of_ble_eq_true rfl, Nat.le_of_ble_eq_true rfl⟩ hb1 hb2 rfl (Nat.le_of_ble_eq_true rfl) dJ5_append_c97b9_14 ⟨Nat.le_trans (Nat.add_le_add_left hm1 _) hB.1, Nat.le_trans (Nat.add_le_add_left hs1 _) hB.2⟩) (fun S4 hf H locs cells slots hH hB => ?_)
    refine lv_aload_n hx hb dJ5_append_c97b9_17 rfl (lv_at hl 2 rfl) ?_
    obtain ⟨hb1, hb2, hf⟩ := hf
    refine q_backI0 X hH (q_runU [] [] X hH hl (c_J5_isLatin1_aae02 l D cy G X.2.2.2.1 hGC S4 a0 _ _ hf) mf_J5_isLatin1_aae02 ⟨tw_617, tw_618⟩ (X.1.2.2.2.2 _ tw_619) tw_616 ⟨Nat.le_of_ble_eq_true rfl, Nat.le_of_ble_eq_true rfl⟩ hb1 hb2 rfl (Nat.le_of_ble_eq_true rfl) dJ5_append_c97b9_18 ⟨Nat.le_trans (Nat.le_add_right _ _) hB.1, Nat.le_trans (Nat.le_add_right _ _) hB.2⟩) (fun v8 S7 hf H locs hH => ?_)
    refine lv_if_eq (tgt := 37) hx hb dJ5_append_c97b9_21 (by decide) (fun c9 => ?_) (fun c9 => ?_)
    · have hf := (if_pos c9).mp hf
      exact hf.elim
    · have hf := (if_neg c9).mp hf
      refine lv_iload_n hx hb dJ5_append_c97b9_24 rfl (lv_at hl 3 rfl) ?_
      refine lv_iload_n hx hb dJ5_append_c97b9_25 rfl (lv_at hl 0 rfl) ?_
      refine lv_aload_n hx hb dJ5_append_c97b9_26 rfl (lv_at hl 2 rfl) ?_
      refine q_getR (T := TJ4) (N := 4) X hH hf iw_J4 rfl (by decide) tw_261 (fun _ h => h) dJ5_append_c97b9_27 (fun v10 hf => ?_)
      refine q_backI0 X hH (q_runS [.int a1, .int (v1 + v3), .ref v10] [] X hH hl (c_J6_getChars_ba4f3 l D cy G X.2.2.2.1 dT dO hGT S7 a1 (v1 + v3) v10 _ _ hf) mf_J6_getChars_ba4f3 tw_701 tw_700 ⟨Nat.le_of_ble_eq_true rfl, Nat.le_of_ble_eq_true rfl⟩ rfl (Nat.le_of_ble_eq_true rfl) dJ5_append_c97b9_30 ⟨Nat.le_trans (Nat.le_add_right _ _) hB.1, Nat.le_trans (Nat.le_add_right _ _) hB.2⟩) (fun v12 S11 hf H locs hH => ?_)
      refine lv_pop hx hb dJ5_append_c97b9_33 rfl ?_
      refine lv_goto (tgt := 48) hx hb dJ5_append_c97b9_34 (by decide) ?_
      refine lv_aload_n hx hb dJ5_append_c97b9_48 rfl (lv_at hl 2 rfl) ?_
      refine lv_iload_n hx hb dJ5_append_c97b9_49 rfl (lv_at hl 0 rfl) ?_
      refine q_putV (T := TJ4) (N := 4) (ty0 := tyJ4) (ty := tyJ4 3) X hH hf iw_J4 tyJ4_ok nmJ4 rfl (by decide) tw_265 (fun _ h => h) rfl (tyJ4_ok 3 (by decide)) rfl rfl dJ5_append_c97b9_50 (fun S13 hf H locs hH => ?_)
      refine lv_aload_n hx hb dJ5_append_c97b9_53 rfl (lv_at hl 2 rfl) ?_
      exact q_retR X hH hr (Or.inl ⟨_, rfl⟩) hlk hf (Nat.le_trans (Nat.le_add_right _ _) hB.1) (Nat.le_trans (Nat.le_add_right _ _) hB.2) dJ5_append_c97b9_54
  exact main s.heap [] ls 0 0 mc ms hf hH hl ⟨by omega, by omega⟩
-- J0_charAt_5068e
def f_J0_charAt_5068e (adK : Nat → Nat) (S : PS) (a0 : Nat) (a1 : Int32) (post : Int32 → PS → Prop) : Prop :=
  sK adK a0 fun k1 => (
  (f_J0_isLatin1_aae02 adK S (adK k1) fun v3 S2 => (
  if v3 = 0 then
    False
  else
    f_J1_charAt_3b067 S2 k1 a1 fun v6 S5 => (
    nZ .char v6 (post v6 S5)))))
abbrev rm_J0_charAt_5068e : Room := { frames := 3, cells := 0, slots := 0, locals := 64 }
set_option maxHeartbeats 4000000 in
set_option maxRecDepth 100000 in
theorem c_J0_charAt_5068e (l : Launch) (D : va_G) (cy : Nat → ClassId) (G : p_GT) (hG : p_ok G) (hGC : ∀ (A : Nat → Prop) (U : State) (H : Heap), G A U H → gC A U H) (hGF : ∀ (A : Nat → Prop) (U : State) (H : Heap), G A U H → gF A U H) (adK adV : Nat → Nat) (hGK : ∀ (A : Nat → Prop) (U : State) (H : Heap), G A U H → gK adK adV A U H) (S : PS) (a0 : Nat) (a1 : Int32) (post : Int32 → PS → Prop) (sz : Nat) (hf : f_J0_charAt_5068e adK S a0 a1 post) : p_Mi l D cy G S sz yJ0_charAt_5068e (Cond.code yJ0_charAt_5068e cJ0_charAt_5068e 2 (some .char) :: wG) rm_J0_charAt_5068e [.ref a0, .int a1] 0 0 post := by
  refine q_start hG (Qc := fun A => va_Qi post (p_Post D cy A) A) mf_J0_charAt_5068e (Nat.le_of_ble_eq_true rfl) (own := RJ0) rfl ?_
  intro p e s m below meth c A X hr hlk hnm ls hl hH
  have hx := X.1.1
  have hb := X.1.2.1
  replace hl : lv_has ls 2 [(0, .ref a0), (1, .int a1)] := hl
  obtain ⟨H, hHe⟩ : ∃ H, H = s.heap := ⟨_, rfl⟩
  obtain ⟨locs, hlo⟩ : ∃ locs : List Loc, locs = [] := ⟨_, rfl⟩
  rw [← hHe, ← hlo] at hH
  show W p l e rm_J0_charAt_5068e s m [.ref a0, .int a1].toArray below meth c s.heap [] 0 0 _ _
  rw [← hHe, ← hlo]
  obtain ⟨k1, hk1, hek1, hf⟩ := hf
  replace hl : lv_has ls 2 [(0, .ref (adK k1)), (1, .int a1)] := by rw [← hek1]; exact hl
  refine lv_aload_n hx hb dJ0_charAt_5068e_0 rfl (lv_at hl 0 rfl) ?_
  refine q_backI0 X hH (q_runK [] [] X hH hl (c_J0_isLatin1_aae02 l D cy G X.2.2.2.1 hGC adK adV hGK S (adK k1) _ _ hf) mf_J0_isLatin1_aae02 mv_J0_isLatin1_aae02 tw_1417 ⟨Nat.le_of_ble_eq_true rfl, Nat.le_of_ble_eq_true rfl⟩ (hGK _ _ _ X.2.2.2.2) hk1 rfl rfl rfl (Nat.le_of_ble_eq_true rfl) dJ0_charAt_5068e_1 ⟨Nat.le_of_ble_eq_true rfl, Nat.le_of_ble_eq_true rfl⟩) (fun v3 S2 hf H locs hH => ?_)
  refine lv_if_eq (tgt := 16) hx hb dJ0_charAt_5068e_4 (by decide) (fun c4 => ?_) (fun c4 => ?_)
  · have hf := (if_pos c4).mp hf
    exact hf.elim
  · have hf := (if_neg c4).mp hf
    refine lv_aload_n hx hb dJ0_charAt_5068e_7 rfl (lv_at hl 0 rfl) ?_
    refine q_getK X hH ((hGK _ _ _ X.2.2.2.2).1.1 k1 hk1).2.2.1 tw_841 dJ0_charAt_5068e_8 ?_
    refine lv_iload_n hx hb dJ0_charAt_5068e_11 rfl (lv_at hl 1 rfl) ?_
    refine q_backI0 X hH (q_runS [.ref (adV k1), .int a1] [] X hH hl (c_J1_charAt_3b067 l D cy G X.2.2.2.1 hGF adK adV hGK S2 k1 a1 _ _ hf) mf_J1_charAt_3b067 tw_1422 tw_1421 ⟨Nat.le_of_ble_eq_true rfl, Nat.le_of_ble_eq_true rfl⟩ rfl (Nat.le_of_ble_eq_true rfl) dJ0_charAt_5068e_12 ⟨Nat.le_of_ble_eq_true rfl, Nat.le_of_ble_eq_true rfl⟩) (fun v6 S5 hf H locs hH => ?_)
    exact q_retZ X hH hr hlk hf (Nat.zero_le _) (Nat.zero_le _) dJ0_charAt_5068e_15
-- J4_append_cf468
def f_J4_append_cf468 (S : PS) (a0 : Nat) (a1 : Int32) (bc bs : Nat) (post : Nat → PS → Prop) : Prop :=
  isO S a0 1 (
  ∃ mc2 ms2 : Nat, mc2 ≤ bc ∧ ms2 ≤ bs ∧ (f_J5_append_3fe6f S a0 a1 mc2 ms2 fun v3 S1 => (
  post a0 S1)))
abbrev rm_J4_append_cf468 (mc ms : Nat) : Room := { frames := 5, cells := mc, slots := ms, locals := 125 }
set_option maxHeartbeats 4000000 in
set_option maxRecDepth 100000 in
theorem c_J4_append_cf468 (l : Launch) (D : va_G) (cy : Nat → ClassId) (G : p_GT) (hG : p_ok G) (hGC : ∀ (A : Nat → Prop) (U : State) (H : Heap), G A U H → gC A U H) (hGU : ∀ (A : Nat → Prop) (U : State) (H : Heap), G A U H → gU A U H) (S : PS) (a0 : Nat) (a1 : Int32) (mc ms : Nat) (post : Nat → PS → Prop) (sz : Nat) (hf : f_J4_append_cf468 S a0 a1 mc ms post) : p_Mr l D cy G S sz yJ4_append_cf468 (Cond.code yJ4_append_cf468 cJ4_append_cf468 2 (some (.object "java/lang/StringBuilder")) :: wG) (rm_J4_append_cf468 mc ms) [.ref a0, .int a1] mc ms post := by
  refine q_start hG (Qc := fun A => p_Qr D cy post A) mf_J4_append_cf468 (Nat.le_of_ble_eq_true rfl) (own := RJ4) rfl ?_
  intro p e s m below meth c A X hr hlk hnm ls hl hH
  have hx := X.1.1
  have hb := X.1.2.1
  replace hl : lv_has ls 2 [(0, .ref a0), (1, .int a1)] := hl
  have main : ∀ (H : Heap) (locs : List Loc) (ls : Array Slot) (cells slots bc bs : Nat), f_J4_append_cf468 S a0 a1 bc bs post → p_H D cy S A s H locs → lv_has ls 2 [(0, .ref a0), (1, .int a1)] → cells + bc ≤ mc ∧ slots + bs ≤ ms → W p l e (rm_J4_append_cf468 mc ms) s m [.ref a0, .int a1].toArray below meth c H locs cells slots (MQ below (p_Qr D cy post A) [.ref a0, .int a1].toArray s mc ms A) (F0 m 0 ls []) := by
    intro H locs ls cells slots bc bs hf hH hl hB
    refine lv_aload_n hx hb dJ4_append_cf468_0 rfl (lv_at hl 0 rfl) ?_
    refine lv_iload_n hx hb dJ4_append_cf468_1 rfl (lv_at hl 1 rfl) ?_
    obtain ⟨hb1, hb2, hf⟩ := hf
    obtain ⟨mc2, ms2, hm1, hs1, hf⟩ := hf
    refine q_backRB X hH hB hm1 hs1 (q_runSU [.int a1] [] X hH hl (c_J5_append_3fe6f l D cy G X.2.2.2.1 hGC hGU S a0 a1 mc2 ms2 _ _ hf) mf_J5_append_3fe6f tw_913 tw_2113 tw_274 (by decide +kernel) tw_912 ⟨Nat.le_of_ble_eq_true rfl, Nat.le_of_ble_eq_true rfl⟩ hb1 hb2 rfl (Nat.le_of_ble_eq_true rfl) dJ4_append_cf468_2 ⟨Nat.le_trans (Nat.add_le_add_left hm1 _) hB.1, Nat.le_trans (Nat.add_le_add_left hs1 _) hB.2⟩) (fun v3 S1 hf H locs cells slots hH hB => ?_)
    refine lv_pop hx hb dJ4_append_cf468_5 rfl ?_
    refine lv_aload_n hx hb dJ4_append_cf468_6 rfl (lv_at hl 0 rfl) ?_
    exact q_retR X hH hr (Or.inl ⟨_, rfl⟩) hlk hf (Nat.le_trans (Nat.le_add_right _ _) hB.1) (Nat.le_trans (Nat.le_add_right _ _) hB.2) dJ4_append_cf468_7
  exact main s.heap [] ls 0 0 mc ms hf hH hl ⟨by omega, by omega⟩
-- J4_append_bf812
def f_J4_append_bf812 (S : PS) (a0 : Nat) (a1 : Int32) (bc bs : Nat) (post : Nat → PS → Prop) : Prop :=
  isO S a0 1 (
  ∃ mc2 ms2 : Nat, mc2 ≤ bc ∧ ms2 ≤ bs ∧ (f_J5_append_c97b9 S a0 a1 mc2 ms2 fun v3 S1 => (
  post a0 S1)))
abbrev rm_J4_append_bf812 (mc ms : Nat) : Room := { frames := 5, cells := mc, slots := ms, locals := 127 }
set_option maxHeartbeats 4000000 in
set_option maxRecDepth 100000 in
theorem c_J4_append_bf812 (l : Launch) (D : va_G) (cy : Nat → ClassId) (G : p_GT) (hG : p_ok G) (hGC : ∀ (A : Nat → Prop) (U : State) (H : Heap), G A U H → gC A U H) (dT dO : Nat) (hGT : ∀ (A : Nat → Prop) (U : State) (H : Heap), G A U H → gT dT dO A U H) (hGU : ∀ (A : Nat → Prop) (U : State) (H : Heap), G A U H → gU A U H) (S : PS) (a0 : Nat) (a1 : Int32) (mc ms : Nat) (post : Nat → PS → Prop) (sz : Nat) (hf : f_J4_append_bf812 S a0 a1 mc ms post) : p_Mr l D cy G S sz yJ4_append_bf812 (Cond.code yJ4_append_bf812 cJ4_append_bf812 2 (some (.object "java/lang/StringBuilder")) :: wG) (rm_J4_append_bf812 mc ms) [.ref a0, .int a1] mc ms post := by
  refine q_start hG (Qc := fun A => p_Qr D cy post A) mf_J4_append_bf812 (Nat.le_of_ble_eq_true rfl) (own := RJ4) rfl ?_
  intro p e s m below meth c A X hr hlk hnm ls hl hH
  have hx := X.1.1
  have hb := X.1.2.1
  replace hl : lv_has ls 2 [(0, .ref a0), (1, .int a1)] := hl
  have main : ∀ (H : Heap) (locs : List Loc) (ls : Array Slot) (cells slots bc bs : Nat), f_J4_append_bf812 S a0 a1 bc bs post → p_H D cy S A s H locs → lv_has ls 2 [(0, .ref a0), (1, .int a1)] → cells + bc ≤ mc ∧ slots + bs ≤ ms → W p l e (rm_J4_append_bf812 mc ms) s m [.ref a0, .int a1].toArray below meth c H locs cells slots (MQ below (p_Qr D cy post A) [.ref a0, .int a1].toArray s mc ms A) (F0 m 0 ls []) := by
    intro H locs ls cells slots bc bs hf hH hl hB
    refine lv_aload_n hx hb dJ4_append_bf812_0 rfl (lv_at hl 0 rfl) ?_
    refine lv_iload_n hx hb dJ4_append_bf812_1 rfl (lv_at hl 1 rfl) ?_
    obtain ⟨hb1, hb2, hf⟩ := hf
    obtain ⟨mc2, ms2, hm1, hs1, hf⟩ := hf
    refine q_backRB X hH hB hm1 hs1 (q_runSU [.int a1] [] X hH hl (c_J5_append_c97b9 l D cy G X.2.2.2.1 hGC dT dO hGT hGU S a0 a1 mc2 ms2 _ _ hf) mf_J5_append_c97b9 tw_695 tw_2110 tw_274 (by decide +kernel) tw_694 ⟨Nat.le_of_ble_eq_true rfl, Nat.le_of_ble_eq_true rfl⟩ hb1 hb2 rfl (Nat.le_of_ble_eq_true rfl) dJ4_append_bf812_2 ⟨Nat.le_trans (Nat.add_le_add_left hm1 _) hB.1, Nat.le_trans (Nat.add_le_add_left hs1 _) hB.2⟩) (fun v3 S1 hf H locs cells slots hH hB => ?_)
    refine lv_pop hx hb dJ4_append_bf812_5 rfl ?_
    refine lv_aload_n hx hb dJ4_append_bf812_6 rfl (lv_at hl 0 rfl) ?_
    exact q_retR X hH hr (Or.inl ⟨_, rfl⟩) hlk hf (Nat.le_trans (Nat.le_add_right _ _) hB.1) (Nat.le_trans (Nat.le_add_right _ _) hB.2) dJ4_append_bf812_7
  exact main s.heap [] ls 0 0 mc ms hf hH hl ⟨by omega, by omega⟩
-- J4_charAt_5068e
def f_J4_charAt_5068e (S : PS) (a0 : Nat) (a1 : Int32) (post : Int32 → PS → Prop) : Prop :=
  isO S a0 1 (
  f_J5_charAt_5068e S a0 a1 fun v2 S1 => (
  nZ .char v2 (post v2 S1)))
abbrev rm_J4_charAt_5068e : Room := { frames := 3, cells := 0, slots := 0, locals := 67 }
set_option maxHeartbeats 4000000 in
set_option maxRecDepth 100000 in
theorem c_J4_charAt_5068e (l : Launch) (D : va_G) (cy : Nat → ClassId) (G : p_GT) (hG : p_ok G) (hGF : ∀ (A : Nat → Prop) (U : State) (H : Heap), G A U H → gF A U H) (S : PS) (a0 : Nat) (a1 : Int32) (post : Int32 → PS → Prop) (sz : Nat) (hf : f_J4_charAt_5068e S a0 a1 post) : p_Mi l D cy G S sz yJ4_charAt_5068e (Cond.code yJ4_charAt_5068e cJ4_charAt_5068e 2 (some .char) :: wG) rm_J4_charAt_5068e [.ref a0, .int a1] 0 0 post := by
  refine q_start hG (Qc := fun A => va_Qi post (p_Post D cy A) A) mf_J4_charAt_5068e (Nat.le_of_ble_eq_true rfl) (own := RJ4) rfl ?_
  intro p e s m below meth c A X hr hlk hnm ls hl hH
  have hx := X.1.1
  have hb := X.1.2.1
  replace hl : lv_has ls 2 [(0, .ref a0), (1, .int a1)] := hl
  obtain ⟨H, hHe⟩ : ∃ H, H = s.heap := ⟨_, rfl⟩
  obtain ⟨locs, hlo⟩ : ∃ locs : List Loc, locs = [] := ⟨_, rfl⟩
  rw [← hHe, ← hlo] at hH
  show W p l e rm_J4_charAt_5068e s m [.ref a0, .int a1].toArray below meth c s.heap [] 0 0 _ _
  rw [← hHe, ← hlo]
  refine lv_aload_n hx hb dJ4_charAt_5068e_0 rfl (lv_at hl 0 rfl) ?_
  refine lv_iload_n hx hb dJ4_charAt_5068e_1 rfl (lv_at hl 1 rfl) ?_
  obtain ⟨hb1, hb2, hf⟩ := hf
  refine q_backI0 X hH (q_runSU [.int a1] [] X hH hl (c_J5_charAt_5068e l D cy G X.2.2.2.1 hGF S a0 a1 _ _ hf) mf_J5_charAt_5068e tw_1437 tw_2114 tw_274 (by decide +kernel) tw_1436 ⟨Nat.le_of_ble_eq_true rfl, Nat.le_of_ble_eq_true rfl⟩ hb1 hb2 rfl (Nat.le_of_ble_eq_true rfl) dJ4_charAt_5068e_2 ⟨Nat.le_of_ble_eq_true rfl, Nat.le_of_ble_eq_true rfl⟩) (fun v2 S1 hf H locs hH => ?_)
  exact q_retZ X hH hr hlk hf (Nat.zero_le _) (Nat.zero_le _) dJ4_charAt_5068e_5
-- J4_setLength_d00df
def f_J4_setLength_d00df (S : PS) (a0 : Nat) (a1 : Int32) (bc bs : Nat) (post : PS → Prop) : Prop :=
  isO S a0 1 (
  ∃ mc2 ms2 : Nat, mc2 ≤ bc ∧ ms2 ≤ bs ∧ (f_J5_setLength_d00df S a0 a1 mc2 ms2 fun S1 => (
  post S1)))
abbrev rm_J4_setLength_d00df (mc ms : Nat) : Room := { frames := 5, cells := mc, slots := ms, locals := 125 }
set_option maxHeartbeats 4000000 in
set_option maxRecDepth 100000 in
theorem c_J4_setLength_d00df (l : Launch) (D : va_G) (cy : Nat → ClassId) (G : p_GT) (hG : p_ok G) (hGU : ∀ (A : Nat → Prop) (U : State) (H : Heap), G A U H → gU A U H) (S : PS) (a0 : Nat) (a1 : Int32) (mc ms : Nat) (post : PS → Prop) (sz : Nat) (hf : f_J4_setLength_d00df S a0 a1 mc ms post) : p_Mv l D cy G S sz yJ4_setLength_d00df (Cond.code yJ4_setLength_d00df cJ4_setLength_d00df 2 none :: wG) (rm_J4_setLength_d00df mc ms) [.ref a0, .int a1] mc ms post := by
  refine q_start hG (Qc := fun A => va_Qv post (p_Post D cy A) A) mf_J4_setLength_d00df (Nat.le_of_ble_eq_true rfl) (own := RJ4) rfl ?_
  intro p e s m below meth c A X hr hlk hnm ls hl hH
  have hx := X.1.1
  have hb := X.1.2.1
  replace hl : lv_has ls 2 [(0, .ref a0), (1, .int a1)] := hl
  have main : ∀ (H : Heap) (locs : List Loc) (ls : Array Slot) (cells slots bc bs : Nat), f_J4_setLength_d00df S a0 a1 bc bs post → p_H D cy S A s H locs → lv_has ls 2 [(0, .ref a0), (1, .int a1)] → cells + bc ≤ mc ∧ slots + bs ≤ ms → W p l e (rm_J4_setLength_d00df mc ms) s m [.ref a0, .int a1].toArray below meth c H locs cells slots (MQ below (va_Qv post (p_Post D cy A) A) [.ref a0, .int a1].toArray s mc ms A) (F0 m 0 ls []) := by
    intro H locs ls cells slots bc bs hf hH hl hB
    refine lv_aload_n hx hb dJ4_setLength_d00df_0 rfl (lv_at hl 0 rfl) ?_
    refine lv_iload_n hx hb dJ4_setLength_d00df_1 rfl (lv_at hl 1 rfl) ?_
    obtain ⟨hb1, hb2, hf⟩ := hf
    obtain ⟨mc2, ms2, hm1, hs1, hf⟩ := hf
    refine q_backVB X hH hB hm1 hs1 (q_runSU [.int a1] [] X hH hl (c_J5_setLength_d00df l D cy G X.2.2.2.1 hGU S a0 a1 mc2 ms2 _ _ hf) mf_J5_setLength_d00df tw_564 tw_2102 tw_274 (by decide +kernel) tw_563 ⟨Nat.le_of_ble_eq_true rfl, Nat.le_of_ble_eq_true rfl⟩ hb1 hb2 rfl (Nat.le_of_ble_eq_true rfl) dJ4_setLength_d00df_2 ⟨Nat.le_trans (Nat.add_le_add_left hm1 _) hB.1, Nat.le_trans (Nat.add_le_add_left hs1 _) hB.2⟩) (fun S1 hf H locs cells slots hH hB => ?_)
    exact q_retV X hH hr hlk hf (Nat.le_trans (Nat.le_add_right _ _) hB.1) (Nat.le_trans (Nat.le_add_right _ _) hB.2) dJ4_setLength_d00df_5
  exact main s.heap [] ls 0 0 mc ms hf hH hl ⟨by omega, by omega⟩
