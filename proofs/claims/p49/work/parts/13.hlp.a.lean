-- L_cell
def f_L_cell (L : Nat) (xs : Nat → Int32) (S : PS) (a1 : Int32) (post : Int32 → PS → Prop) : Prop :=
  if (Int32.ofNat L) ≤ a1 then
    post (((7919 : Int32) * a1) + 12) S
  else
    vp_in (a1) L ∧ (
    post (xs (a1).toNatClampNeg) S)
abbrev rm_L_cell : Room := { frames := 0, cells := 0, slots := 0, locals := 0 }
set_option maxHeartbeats 4000000 in
set_option maxRecDepth 100000 in
theorem c_L_cell (l : Launch) (D : va_G) (cy : Nat → ClassId) (G : p_GT) (hG : p_ok G) (b L : Nat) (xs : Nat → Int32) (hGX : ∀ (A : Nat → Prop) (U : State) (H : Heap), G A U H → gX b L xs A U H) (S : PS) (a1 : Int32) (post : Int32 → PS → Prop) (sz : Nat) (hf : f_L_cell L xs S a1 post) : p_Mi l D cy G S sz yL_cell (Cond.code yL_cell cL_cell 2 (some .int) :: wG) rm_L_cell [.ref b, .int a1] 0 0 post := by
  refine q_start hG (Qc := fun A => va_Qi post (p_Post D cy A) A) mf_L_cell (Nat.le_of_ble_eq_true rfl) (own := RL) rfl ?_
  intro p e s m below meth c A X hr hlk hnm ls hl hH
  have hx := X.1.1
  have hb := X.1.2.1
  replace hl : lv_has ls 2 [(0, .ref b), (1, .int a1)] := hl
  obtain ⟨H, hHe⟩ : ∃ H, H = s.heap := ⟨_, rfl⟩
  obtain ⟨locs, hlo⟩ : ∃ locs : List Loc, locs = [] := ⟨_, rfl⟩
  rw [← hHe, ← hlo] at hH
  show W p l e rm_L_cell s m [.ref b, .int a1].toArray below meth c s.heap [] 0 0 _ _
  rw [← hHe, ← hlo]
  refine lv_iload_n hx hb dL_cell_0 rfl (lv_at hl 1 rfl) ?_
  refine lv_aload_n hx hb dL_cell_1 rfl (lv_at hl 0 rfl) ?_
  refine q_slen X hH (hGX _ _ _ X.2.2.2.2) dL_cell_2 ?_
  refine lv_icmp_ge (tgt := 12) hx hb dL_cell_3 (by decide) (fun c1 => ?_) (fun c1 => ?_)
  · have hf := (if_pos c1).mp hf
    refine lv_sipush (v := 7919) hx hb dL_cell_12 (by decide) ?_
    refine lv_iload_n hx hb dL_cell_15 rfl (lv_at hl 1 rfl) ?_
    refine lv_imul hx hb dL_cell_16 ?_
    refine lv_bipush (v := 12) hx hb dL_cell_17 (by decide) ?_
    refine lv_iadd hx hb dL_cell_19 ?_
    exact q_retI X hH hr hlk hf (Nat.zero_le _) (Nat.zero_le _) dL_cell_20
  · have hf := (if_neg c1).mp hf
    refine lv_aload_n hx hb dL_cell_6 rfl (lv_at hl 0 rfl) ?_
    refine lv_iload_n hx hb dL_cell_7 rfl (lv_at hl 1 rfl) ?_
    refine q_sld X hH (hGX _ _ _ X.2.2.2.2) hf.1 dL_cell_8 ?_
    have hf := hf.2
    refine lv_goto (tgt := 20) hx hb dL_cell_9 (by decide) ?_
    exact q_retI X hH hr hlk hf (Nat.zero_le _) (Nat.zero_le _) dL_cell_20
-- L_some
def f_L_some (L : Nat) (xs : Nat → Int32) (S : PS) (a1 : Int32) (a2 : Int32) (post : Int32 → PS → Prop) : Prop :=
  f_L_cell L xs S a1 fun v2 S1 => (
  (¬ (a2 : Int32) = 0) ∧ (
  post ((((v2).toUInt32 >>> (((3 : Int32)).toUInt32 &&& Int32.toUInt32 31)).toInt32) - (((v2).toUInt32 >>> (((3 : Int32)).toUInt32 &&& Int32.toUInt32 31)).toInt32) / a2 * a2) S1))
abbrev rm_L_some : Room := { frames := 1, cells := 0, slots := 0, locals := 21 }
set_option maxHeartbeats 4000000 in
set_option maxRecDepth 100000 in
theorem c_L_some (l : Launch) (D : va_G) (cy : Nat → ClassId) (G : p_GT) (hG : p_ok G) (b L : Nat) (xs : Nat → Int32) (hGX : ∀ (A : Nat → Prop) (U : State) (H : Heap), G A U H → gX b L xs A U H) (S : PS) (a1 : Int32) (a2 : Int32) (post : Int32 → PS → Prop) (sz : Nat) (hf : f_L_some L xs S a1 a2 post) : p_Mi l D cy G S sz yL_some (Cond.code yL_some cL_some 3 (some .int) :: wG) rm_L_some [.ref b, .int a1, .int a2] 0 0 post := by
  refine q_start hG (Qc := fun A => va_Qi post (p_Post D cy A) A) mf_L_some (Nat.le_of_ble_eq_true rfl) (own := RL) rfl ?_
  intro p e s m below meth c A X hr hlk hnm ls hl hH
  have hx := X.1.1
  have hb := X.1.2.1
  replace hl : lv_has ls 3 [(0, .ref b), (1, .int a1), (2, .int a2)] := hl
  obtain ⟨H, hHe⟩ : ∃ H, H = s.heap := ⟨_, rfl⟩
  obtain ⟨locs, hlo⟩ : ∃ locs : List Loc, locs = [] := ⟨_, rfl⟩
  rw [← hHe, ← hlo] at hH
  show W p l e rm_L_some s m [.ref b, .int a1, .int a2].toArray below meth c s.heap [] 0 0 _ _
  rw [← hHe, ← hlo]
  refine lv_aload_n hx hb dL_some_0 rfl (lv_at hl 0 rfl) ?_
  refine lv_iload_n hx hb dL_some_1 rfl (lv_at hl 1 rfl) ?_
  refine q_backI0 X hH (q_runS [.ref b, .int a1] [] X hH hl (c_L_cell l D cy G X.2.2.2.1 b L xs hGX S a1 _ _ hf) mf_L_cell tw_979 tw_978 ⟨Nat.le_of_ble_eq_true rfl, Nat.le_of_ble_eq_true rfl⟩ rfl (Nat.le_of_ble_eq_true rfl) dL_some_2 ⟨Nat.le_of_ble_eq_true rfl, Nat.le_of_ble_eq_true rfl⟩) (fun v2 S1 hf H locs hH => ?_)
  refine lv_iconst (v := 3) hx hb dL_some_5 (by decide) ?_
  refine lv_iushr (v := ((v2).toUInt32 >>> (((3 : Int32)).toUInt32 &&& Int32.toUInt32 31)).toInt32) hx hb dL_some_6 rfl ?_
  refine lv_iload_n hx hb dL_some_7 rfl (lv_at hl 2 rfl) ?_
  refine lv_irem hx hb dL_some_8 hf.1 ?_
  have hf := hf.2
  exact q_retI X hH hr hlk hf (Nat.zero_le _) (Nat.zero_le _) dL_some_9
-- L_told
def f_L_told (S : PS) (a0 : Nat) (bc bs : Nat) (post : Int32 → PS → Prop) : Prop :=
  isO S a0 11 (
  ∃ mc2 ms2 : Nat, mc2 ≤ bc ∧ ms2 ≤ bs ∧ (f_X7_reason S a0 0 0 mc2 ms2 (fun v3 S1 => (
  post ((-20000 : Int32) - v3) S1)) (fun _ _ => False)))
abbrev rm_L_told (mc ms : Nat) : Room := { frames := 7, cells := mc, slots := ms, locals := 112 }
set_option maxHeartbeats 4000000 in
set_option maxRecDepth 100000 in
theorem c_L_told (l : Launch) (D : va_G) (cy : Nat → ClassId) (G : p_GT) (hG : p_ok G) (hst : l.stackTraces = false) (hGE : ∀ (A : Nat → Prop) (U : State) (H : Heap), G A U H → p_Ex A U H) (S : PS) (a0 : Nat) (mc ms : Nat) (post : Int32 → PS → Prop) (sz : Nat) (hf : f_L_told S a0 mc ms post) : p_Mi l D cy G S sz yL_told (Cond.code yL_told cL_told 1 (some .int) :: wG) (rm_L_told mc ms) [.ref a0] mc ms post := by
  refine q_start hG (Qc := fun A => va_Qi post (p_Post D cy A) A) mf_L_told (Nat.le_of_ble_eq_true rfl) (own := RL) rfl ?_
  intro p e s m below meth c A X hr hlk hnm ls hl hH
  have hx := X.1.1
  have hb := X.1.2.1
  replace hl : lv_has ls 1 [(0, .ref a0)] := hl
  have main : ∀ (H : Heap) (locs : List Loc) (ls : Array Slot) (cells slots bc bs : Nat), f_L_told S a0 bc bs post → p_H D cy S A s H locs → lv_has ls 1 [(0, .ref a0)] → cells + bc ≤ mc ∧ slots + bs ≤ ms → W p l e (rm_L_told mc ms) s m [.ref a0].toArray below meth c H locs cells slots (MQ below (va_Qi post (p_Post D cy A) A) [.ref a0].toArray s mc ms A) (F0 m 0 ls []) := by
    intro H locs ls cells slots bc bs hf hH hl hB
    refine lv_sipush (v := (-20000)) hx hb dL_told_0 (by decide) ?_
    refine lv_aload_n hx hb dL_told_3 rfl (lv_at hl 0 rfl) ?_
    refine lv_iconst (v := 0) hx hb dL_told_4 (by decide) ?_
    refine lv_iconst (v := 0) hx hb dL_told_5 (by decide) ?_
    obtain ⟨hb1, hb2, mc2, ms2, hm1, hs1, hf⟩ := hf
    refine q_callXi X hH hB hm1 hs1 (q_runVx [.int 0, .int 0] [.int ((-20000))] X hH hl (c_X7_reason l D cy G X.2.2.2.1 hst hGE S a0 0 0 mc2 ms2 _ _ _ hf) mf_X7_reason mv_X7_reason tw_1077 ⟨Nat.le_of_ble_eq_true rfl, Nat.le_of_ble_eq_true rfl⟩ hb1 hb2 (T := TX7) (N := 12) rfl rfl (Nat.le_of_ble_eq_true rfl) dL_told_6 ⟨Nat.le_trans (Nat.add_le_add_left hm1 _) hB.1, Nat.le_trans (Nat.add_le_add_left hs1 _) hB.2⟩) (fun _ _ _ _ hf _ _ _ _ _ _ _ _ _ => hf.elim) (fun v3 S1 hf H locs cells slots hH hB => ?_)
    refine lv_isub hx hb dL_told_9 ?_
    exact q_retI X hH hr hlk hf (Nat.le_trans (Nat.le_add_right _ _) hB.1) (Nat.le_trans (Nat.le_add_right _ _) hB.2) dL_told_10
  exact main s.heap [] ls 0 0 mc ms hf hH hl ⟨by omega, by omega⟩
-- L_bondAt
def f_L_bondAt (S : PS) (a0 : Nat) (a1 : Int32) (bc bs : Nat) (post : Int32 → PS → Prop) : Prop :=
  isO S a0 11 (
  ∃ mc2 ms2 : Nat, mc2 ≤ bc ∧ ms2 ≤ bs ∧ (f_X7_bondAt S a0 a1 mc2 ms2 (fun v3 S1 => (
    post v3 S1)) (fun E4 S4 => (
  (E4 = "java/util/NoSuchElementException" ∧ (
    post (-30000) S4))))))
abbrev rm_L_bondAt (mc ms : Nat) : Room := { frames := 7, cells := mc, slots := ms, locals := 112 }
set_option maxHeartbeats 4000000 in
set_option maxRecDepth 100000 in
theorem c_L_bondAt (l : Launch) (D : va_G) (cy : Nat → ClassId) (G : p_GT) (hG : p_ok G) (hst : l.stackTraces = false) (hGE : ∀ (A : Nat → Prop) (U : State) (H : Heap), G A U H → p_Ex A U H) (S : PS) (a0 : Nat) (a1 : Int32) (mc ms : Nat) (post : Int32 → PS → Prop) (sz : Nat) (hf : f_L_bondAt S a0 a1 mc ms post) : p_Xi l D cy G S sz yL_bondAt (Cond.codeWith yL_bondAt cL_bondAt 3 (some .int) [(0, 5, 6, 53)] :: wG) (rm_L_bondAt mc ms) [.ref a0, .int a1] mc ms post (fun _ _ => False) := by
  refine q_startH hG (Qc := fun A => va_Qi post (p_Post D cy A) A) (XC := fun A => p_XC D cy A (fun _ _ => False)) mw_L_bondAt (Nat.le_of_ble_eq_true rfl) (own := RL) rfl ?_
  intro p e s m below meth c A X hr hlk hnm htab ls hl hH
  have hx := X.1.1
  have hb := X.1.2.1
  replace hl : lv_has ls 3 [(0, .ref a0), (1, .int a1)] := hl
  have main : ∀ (H : Heap) (locs : List Loc) (ls : Array Slot) (cells slots bc bs : Nat), f_L_bondAt S a0 a1 bc bs post → p_H D cy S A s H locs → lv_has ls 3 [(0, .ref a0), (1, .int a1)] → cells + bc ≤ mc ∧ slots + bs ≤ ms → W p l e (rm_L_bondAt mc ms) s m [.ref a0, .int a1].toArray below meth c H locs cells slots (vx_MQ below (va_Qi post (p_Post D cy A) A) (p_XC D cy A (fun _ _ => False)) [.ref a0, .int a1].toArray s mc ms A) (F0 m 0 ls []) := by
    intro H locs ls cells slots bc bs hf hH hl hB
    refine lv_aload_n hx hb dL_bondAt_0 rfl (lv_at hl 0 rfl) ?_
    refine lv_iload_n hx hb dL_bondAt_1 rfl (lv_at hl 1 rfl) ?_
    obtain ⟨hb1, hb2, mc2, ms2, hm1, hs1, hf⟩ := hf
    refine q_callXi X hH hB hm1 hs1 (q_runVx [.int a1] [] X hH hl (c_X7_bondAt l D cy G X.2.2.2.1 hst hGE S a0 a1 mc2 ms2 _ _ _ hf) mf_X7_bondAt mv_X7_bondAt tw_949 ⟨Nat.le_of_ble_eq_true rfl, Nat.le_of_ble_eq_true rfl⟩ hb1 hb2 (T := TX7) (N := 12) rfl rfl (Nat.le_of_ble_eq_true rfl) dL_bondAt_2 ⟨Nat.le_trans (Nat.add_le_add_left hm1 _) hB.1, Nat.le_trans (Nat.add_le_add_left hs1 _) hB.2⟩) (fun E4 ce q9 S4 hf H locs cells slots hH hB hc1 hc2 hc3 => ?_) (fun v3 S1 hf H locs cells slots hH hB => ?_)
    · rcases hf with ⟨rfl, hf⟩
      · refine vx_catch X.1.2.2.2.1 [] ⟨0, 5, 6, 53⟩ [] htab (fun z hz => nomatch hz) (by decide) (by decide) (X.1.2.2.2.2 _ tw_899) (va_Nw.use (by decide +kernel) ((hGE _ _ _ X.2.2.2.2).1 _ (List.mem_of_getElem? (i := 6) rfl))) hc1 hc2 hc3 ?_
        refine lv_astore_n (lv' := [(2, .ref q9), (0, .ref a0), (1, .int a1)]) hx hb dL_bondAt_6 rfl hl (by decide) rfl (fun ls hl => ?_)
        refine lv_sipush (v := (-30000)) hx hb dL_bondAt_7 (by decide) ?_
        exact vx_ret (q_retI X hH hr hlk hf (Nat.le_trans (Nat.le_add_right _ _) hB.1) (Nat.le_trans (Nat.le_add_right _ _) hB.2) dL_bondAt_10)
    · exact vx_ret (q_retI X hH hr hlk hf (Nat.le_trans (Nat.le_add_right _ _) hB.1) (Nat.le_trans (Nat.le_add_right _ _) hB.2) dL_bondAt_5)
  exact main s.heap [] ls 0 0 mc ms hf hH hl ⟨by omega, by omega⟩
-- L_heaviest
def f_L_heaviest (S : PS) (a0 : Nat) (bc bs : Nat) (post : Int32 → PS → Prop) : Prop :=
  isO S a0 11 (
  ∃ mc2 ms2 : Nat, mc2 ≤ bc ∧ ms2 ≤ bs ∧ (f_X7_heaviest S a0 mc2 ms2 (fun v3 S1 => (
    post v3 S1)) (fun E4 S4 => (
  (E4 = "java/util/NoSuchElementException" ∧ (
    post (-30000) S4))))))
abbrev rm_L_heaviest (mc ms : Nat) : Room := { frames := 7, cells := mc, slots := ms, locals := 111 }
set_option maxHeartbeats 4000000 in
set_option maxRecDepth 100000 in
theorem c_L_heaviest (l : Launch) (D : va_G) (cy : Nat → ClassId) (G : p_GT) (hG : p_ok G) (hst : l.stackTraces = false) (hGE : ∀ (A : Nat → Prop) (U : State) (H : Heap), G A U H → p_Ex A U H) (S : PS) (a0 : Nat) (mc ms : Nat) (post : Int32 → PS → Prop) (sz : Nat) (hf : f_L_heaviest S a0 mc ms post) : p_Xi l D cy G S sz yL_heaviest (Cond.codeWith yL_heaviest cL_heaviest 2 (some .int) [(0, 4, 5, 53)] :: wG) (rm_L_heaviest mc ms) [.ref a0] mc ms post (fun _ _ => False) := by
  refine q_startH hG (Qc := fun A => va_Qi post (p_Post D cy A) A) (XC := fun A => p_XC D cy A (fun _ _ => False)) mw_L_heaviest (Nat.le_of_ble_eq_true rfl) (own := RL) rfl ?_
  intro p e s m below meth c A X hr hlk hnm htab ls hl hH
  have hx := X.1.1
  have hb := X.1.2.1
  replace hl : lv_has ls 2 [(0, .ref a0)] := hl
  have main : ∀ (H : Heap) (locs : List Loc) (ls : Array Slot) (cells slots bc bs : Nat), f_L_heaviest S a0 bc bs post → p_H D cy S A s H locs → lv_has ls 2 [(0, .ref a0)] → cells + bc ≤ mc ∧ slots + bs ≤ ms → W p l e (rm_L_heaviest mc ms) s m [.ref a0].toArray below meth c H locs cells slots (vx_MQ below (va_Qi post (p_Post D cy A) A) (p_XC D cy A (fun _ _ => False)) [.ref a0].toArray s mc ms A) (F0 m 0 ls []) := by
    intro H locs ls cells slots bc bs hf hH hl hB
    refine lv_aload_n hx hb dL_heaviest_0 rfl (lv_at hl 0 rfl) ?_
    obtain ⟨hb1, hb2, mc2, ms2, hm1, hs1, hf⟩ := hf
    refine q_callXi X hH hB hm1 hs1 (q_runVx [] [] X hH hl (c_X7_heaviest l D cy G X.2.2.2.1 hst hGE S a0 mc2 ms2 _ _ _ hf) mf_X7_heaviest mv_X7_heaviest tw_961 ⟨Nat.le_of_ble_eq_true rfl, Nat.le_of_ble_eq_true rfl⟩ hb1 hb2 (T := TX7) (N := 12) rfl rfl (Nat.le_of_ble_eq_true rfl) dL_heaviest_1 ⟨Nat.le_trans (Nat.add_le_add_left hm1 _) hB.1, Nat.le_trans (Nat.add_le_add_left hs1 _) hB.2⟩) (fun E4 ce q9 S4 hf H locs cells slots hH hB hc1 hc2 hc3 => ?_) (fun v3 S1 hf H locs cells slots hH hB => ?_)
    · rcases hf with ⟨rfl, hf⟩
      · refine vx_catch X.1.2.2.2.1 [] ⟨0, 4, 5, 53⟩ [] htab (fun z hz => nomatch hz) (by decide) (by decide) (X.1.2.2.2.2 _ tw_899) (va_Nw.use (by decide +kernel) ((hGE _ _ _ X.2.2.2.2).1 _ (List.mem_of_getElem? (i := 6) rfl))) hc1 hc2 hc3 ?_
        refine lv_astore_n (lv' := [(1, .ref q9), (0, .ref a0)]) hx hb dL_heaviest_5 rfl hl (by decide) rfl (fun ls hl => ?_)
        refine lv_sipush (v := (-30000)) hx hb dL_heaviest_6 (by decide) ?_
        exact vx_ret (q_retI X hH hr hlk hf (Nat.le_trans (Nat.le_add_right _ _) hB.1) (Nat.le_trans (Nat.le_add_right _ _) hB.2) dL_heaviest_9)
    · exact vx_ret (q_retI X hH hr hlk hf (Nat.le_trans (Nat.le_add_right _ _) hB.1) (Nat.le_trans (Nat.le_add_right _ _) hB.2) dL_heaviest_4)
  exact main s.heap [] ls 0 0 mc ms hf hH hl ⟨by omega, by omega⟩
-- L_tie
def f_L_tie_J62 (post : Int32 → PS → Prop) (g5 : PS → Nat → Int32 → Int32 → Int32 → Int32 → Prop) (S : PS) (l0 : Nat) (l1 : Int32) (l2 : Int32) (l3 : Int32) (l4 : Int32) : Prop :=
  g5 S l0 l1 l2 l3 (l4 + 1)
def f_L_tie_J54 (post : Int32 → PS → Prop) (g15 : PS → Nat → Int32 → Int32 → Int32 → Int32 → Int32 → Prop) (S : PS) (l0 : Nat) (l1 : Int32) (l2 : Int32) (l4 : Int32) (l5 : Int32) (t0 : Int32) (t1 : Int32) : Prop :=
  g15 S l0 l1 l2 (t1 + t0) l4 (l5 + 1)
def f_L_tie_J53 (post : Int32 → PS → Prop) (g15 : PS → Nat → Int32 → Int32 → Int32 → Int32 → Int32 → Prop) (S : PS) (l0 : Nat) (l1 : Int32) (l2 : Int32) (l4 : Int32) (l5 : Int32) (t0 : Int32) : Prop :=
  f_L_tie_J54 post g15 S l0 l1 l2 l4 l5 0 t0
def f_L_tie_L15 (post : Int32 → PS → Prop) (g5 : PS → Nat → Int32 → Int32 → Int32 → Int32 → Prop) : Nat → PS → Nat → Int32 → Int32 → Int32 → Int32 → Int32 → Prop
  | 0, _, _, _, _, _, _, _ => False
  | n + 1, S, l0, l1, l2, l3, l4, l5 =>
  lEQ S l0 fun v1 => (
  if v1 ≤ l5 then
    f_L_tie_J62 post g5 S l0 l1 l2 l3 l4
  else
    if ((l1 >>> (l4 &&& 31)) &&& 1) = 1 then
      if ((l2 >>> (l5 &&& 31)) &&& 1) = 1 then
        aQ S l0 l4 fun v5 => (
        aI S v5 0 l5 fun v6 => (
        f_L_tie_J54 post (f_L_tie_L15 post g5 n) S l0 l1 l2 l4 l5 v6 l3))
      else
        f_L_tie_J53 post (f_L_tie_L15 post g5 n) S l0 l1 l2 l4 l5 l3
    else
      f_L_tie_J53 post (f_L_tie_L15 post g5 n) S l0 l1 l2 l4 l5 l3)
def f_L_tie_L5 (post : Int32 → PS → Prop) : Nat → PS → Nat → Int32 → Int32 → Int32 → Int32 → Prop
  | 0, _, _, _, _, _, _ => False
  | n + 1, S, l0, l1, l2, l3, l4 =>
  lEQ S l0 fun v1 => (
  if v1 ≤ l4 then
    post l3 S
  else
    f_L_tie_L15 post (f_L_tie_L5 post n) 4096 S l0 l1 l2 l3 l4 0)
def f_L_tie (S : PS) (a0 : Nat) (a1 : Int32) (a2 : Int32) (post : Int32 → PS → Prop) : Prop :=
  f_L_tie_L5 post 4096 S a0 a1 a2 0 0
abbrev rm_L_tie : Room := { frames := 0, cells := 0, slots := 0, locals := 0 }
set_option maxHeartbeats 4000000 in
set_option maxRecDepth 100000 in
theorem c_L_tie (l : Launch) (D : va_G) (cy : Nat → ClassId) (G : p_GT) (hG : p_ok G) (S : PS) (a0 : Nat) (a1 : Int32) (a2 : Int32) (post : Int32 → PS → Prop) (sz : Nat) (hf : f_L_tie S a0 a1 a2 post) : p_Mi l D cy G S sz yL_tie (Cond.code yL_tie cL_tie 6 (some .int) :: wG) rm_L_tie [.ref a0, .int a1, .int a2] 0 0 post := by
  refine q_start hG (Qc := fun A => va_Qi post (p_Post D cy A) A) mf_L_tie (Nat.le_of_ble_eq_true rfl) (own := RL) rfl ?_
  intro p e s m below meth c A X hr hlk hnm ls hl hH
  have hx := X.1.1
  have hb := X.1.2.1
  replace hl : lv_has ls 6 [(0, .ref a0), (1, .int a1), (2, .int a2)] := hl
  obtain ⟨H, hHe⟩ : ∃ H, H = s.heap := ⟨_, rfl⟩
  obtain ⟨locs, hlo⟩ : ∃ locs : List Loc, locs = [] := ⟨_, rfl⟩
  rw [← hHe, ← hlo] at hH
  show W p l e rm_L_tie s m [.ref a0, .int a1, .int a2].toArray below meth c s.heap [] 0 0 _ _
  rw [← hHe, ← hlo]
  have hL5 : ∀ (n5 : Nat) (S : PS) (l0 : Nat) (l1 : Int32) (l2 : Int32) (l3 : Int32) (l4 : Int32), f_L_tie_L5 post n5 S l0 l1 l2 l3 l4 → ∀ (H : Heap) (locs : List Loc) (ls : Array Slot), p_H D cy S A s H locs → lv_has ls 6 [(0, .ref l0), (1, .int l1), (2, .int l2), (3, .int l3), (4, .int l4)] → W p l e rm_L_tie s m [.ref a0, .int a1, .int a2].toArray below meth c H locs 0 0 (MQ below (va_Qi post (p_Post D cy A) A) [.ref a0, .int a1, .int a2].toArray s 0 0 A) (F0 m 5 ls []) := by
    intro n5
    induction n5 with
    | zero => intro S l0 l1 l2 l3 l4 hf; exact hf.elim
    | succ n5 ih5 =>
      intro S l0 l1 l2 l3 l4 hf H locs ls hH hl
      have hL15 : ∀ (n15 : Nat) (S : PS) (l0 : Nat) (l1 : Int32) (l2 : Int32) (l3 : Int32) (l4 : Int32) (l5 : Int32), f_L_tie_L15 post (f_L_tie_L5 post n5) n15 S l0 l1 l2 l3 l4 l5 → ∀ (H : Heap) (locs : List Loc) (ls : Array Slot), p_H D cy S A s H locs → lv_has ls 6 [(0, .ref l0), (1, .int l1), (2, .int l2), (3, .int l3), (4, .int l4), (5, .int l5)] → W p l e rm_L_tie s m [.ref a0, .int a1, .int a2].toArray below meth c H locs 0 0 (MQ below (va_Qi post (p_Post D cy A) A) [.ref a0, .int a1, .int a2].toArray s 0 0 A) (F0 m 15 ls []) := by
        intro n15
        induction n15 with
        | zero => intro S l0 l1 l2 l3 l4 l5 hf; exact hf.elim
        | succ n15 ih15 =>
          intro S l0 l1 l2 l3 l4 l5 hf H locs ls hH hl
          have hJ62 : ∀ (S : PS) (l0 : Nat) (l1 : Int32) (l2 : Int32) (l3 : Int32) (l4 : Int32), f_L_tie_J62 post (f_L_tie_L5 post n5) S l0 l1 l2 l3 l4 → ∀ (H : Heap) (locs : List Loc) (ls : Array Slot), p_H D cy S A s H locs → lv_has ls 6 [(0, .ref l0), (1, .int l1), (2, .int l2), (3, .int l3), (4, .int l4)] → W p l e rm_L_tie s m [.ref a0, .int a1, .int a2].toArray below meth c H locs 0 0 (MQ below (va_Qi post (p_Post D cy A) A) [.ref a0, .int a1, .int a2].toArray s 0 0 A) (F0 m 62 ls []) := by
            intro S l0 l1 l2 l3 l4 hf H locs ls hH hl
            refine lv_iinc (v := l4 + 1) (lv' := [(4, .int (l4 + 1)), (0, .ref l0), (1, .int l1), (2, .int l2), (3, .int l3)]) hx hb dL_tie_62 hl (k := 4) rfl rfl (by decide) rfl (fun ls hl => ?_)
            refine lv_goto (tgt := 5) hx hb dL_tie_65 (by decide) ?_
            exact ih5 S l0 l1 l2 l3 (l4 + 1) hf H locs ls hH (lv_sub hl [1, 2, 3, 4, 0] rfl)
          have hJ54 : ∀ (S : PS) (l0 : Nat) (l1 : Int32) (l2 : Int32) (l4 : Int32) (l5 : Int32) (t0 : Int32) (t1 : Int32), f_L_tie_J54 post (f_L_tie_L15 post (f_L_tie_L5 post n5) n15) S l0 l1 l2 l4 l5 t0 t1 → ∀ (H : Heap) (locs : List Loc) (ls : Array Slot), p_H D cy S A s H locs → lv_has ls 6 [(0, .ref l0), (1, .int l1), (2, .int l2), (4, .int l4), (5, .int l5)] → W p l e rm_L_tie s m [.ref a0, .int a1, .int a2].toArray below meth c H locs 0 0 (MQ below (va_Qi post (p_Post D cy A) A) [.ref a0, .int a1, .int a2].toArray s 0 0 A) (F0 m 54 ls [.int t0, .int t1]) := by
            intro S l0 l1 l2 l4 l5 t0 t1 hf H locs ls hH hl
            refine lv_iadd hx hb dL_tie_54 ?_
            refine lv_istore_n (lv' := [(3, .int (t1 + t0)), (0, .ref l0), (1, .int l1), (2, .int l2), (4, .int l4), (5, .int l5)]) hx hb dL_tie_55 rfl hl (by decide) rfl (fun ls hl => ?_)
            refine lv_iinc (v := l5 + 1) (lv' := [(5, .int (l5 + 1)), (3, .int (t1 + t0)), (0, .ref l0), (1, .int l1), (2, .int l2), (4, .int l4)]) hx hb dL_tie_56 hl (k := 5) rfl rfl (by decide) rfl (fun ls hl => ?_)
            refine lv_goto (tgt := 15) hx hb dL_tie_59 (by decide) ?_
            exact ih15 S l0 l1 l2 (t1 + t0) l4 (l5 + 1) hf H locs ls hH (lv_sub hl [2, 3, 4, 1, 5, 0] rfl)
          have hJ53 : ∀ (S : PS) (l0 : Nat) (l1 : Int32) (l2 : Int32) (l4 : Int32) (l5 : Int32) (t0 : Int32), f_L_tie_J53 post (f_L_tie_L15 post (f_L_tie_L5 post n5) n15) S l0 l1 l2 l4 l5 t0 → ∀ (H : Heap) (locs : List Loc) (ls : Array Slot), p_H D cy S A s H locs → lv_has ls 6 [(0, .ref l0), (1, .int l1), (2, .int l2), (4, .int l4), (5, .int l5)] → W p l e rm_L_tie s m [.ref a0, .int a1, .int a2].toArray below meth c H locs 0 0 (MQ below (va_Qi post (p_Post D cy A) A) [.ref a0, .int a1, .int a2].toArray s 0 0 A) (F0 m 53 ls [.int t0]) := by
            intro S l0 l1 l2 l4 l5 t0 hf H locs ls hH hl
            refine lv_iconst (v := 0) hx hb dL_tie_53 (by decide) ?_
            exact hJ54 S l0 l1 l2 l4 l5 0 t0 hf H locs ls hH hl
          refine lv_iload hx hb dL_tie_15 (lv_at hl 5 rfl) ?_
          refine lv_aload_n hx hb dL_tie_17 rfl (lv_at hl 0 rfl) ?_
          refine q_alenQ X hH hf dL_tie_18 (fun v1 hf => ?_)
          refine lv_icmp_ge (tgt := 62) hx hb dL_tie_19 (by decide) (fun c2 => ?_) (fun c2 => ?_)
          · have hf := (if_pos c2).mp hf
            exact hJ62 S l0 l1 l2 l3 l4 hf H locs ls hH (lv_sub hl [0, 1, 2, 3, 4] rfl)
          · have hf := (if_neg c2).mp hf
            refine lv_iload_n hx hb dL_tie_22 rfl (lv_at hl 3 rfl) ?_
            refine lv_iload_n hx hb dL_tie_23 rfl (lv_at hl 1 rfl) ?_
            refine lv_iload hx hb dL_tie_24 (lv_at hl 4 rfl) ?_
            refine lv_ishr hx hb dL_tie_26 ?_
            refine lv_iconst (v := 1) hx hb dL_tie_27 (by decide) ?_
            refine lv_iand hx hb dL_tie_28 ?_
            refine lv_iconst (v := 1) hx hb dL_tie_29 (by decide) ?_
            refine lv_icmp_ne (tgt := 53) hx hb dL_tie_30 (by decide) (fun c3 => ?_) (fun c3 => ?_)
            · have hf := (if_neg c3).mp hf
              exact hJ53 S l0 l1 l2 l4 l5 l3 hf H locs ls hH (lv_sub hl [0, 1, 2, 4, 5] rfl)
            · have hf := (if_pos c3).mp hf
              refine lv_iload_n hx hb dL_tie_33 rfl (lv_at hl 2 rfl) ?_
              refine lv_iload hx hb dL_tie_34 (lv_at hl 5 rfl) ?_
              refine lv_ishr hx hb dL_tie_36 ?_
              refine lv_iconst (v := 1) hx hb dL_tie_37 (by decide) ?_
              refine lv_iand hx hb dL_tie_38 ?_
              refine lv_iconst (v := 1) hx hb dL_tie_39 (by decide) ?_
              refine lv_icmp_ne (tgt := 53) hx hb dL_tie_40 (by decide) (fun c4 => ?_) (fun c4 => ?_)
              · have hf := (if_neg c4).mp hf
                exact hJ53 S l0 l1 l2 l4 l5 l3 hf H locs ls hH (lv_sub hl [0, 1, 2, 4, 5] rfl)
              · have hf := (if_pos c4).mp hf
                refine lv_aload_n hx hb dL_tie_43 rfl (lv_at hl 0 rfl) ?_
                refine lv_iload hx hb dL_tie_44 (lv_at hl 4 rfl) ?_
                refine q_aaldQ X hH hf dL_tie_46 (fun v5 hf => ?_)
                refine lv_iload hx hb dL_tie_47 (lv_at hl 5 rfl) ?_
                refine q_iald X hH hf dL_tie_49 (fun v6 hf => ?_)
                refine lv_goto (tgt := 54) hx hb dL_tie_50 (by decide) ?_
                exact hJ54 S l0 l1 l2 l4 l5 v6 l3 hf H locs ls hH (lv_sub hl [0, 1, 2, 4, 5] rfl)
      refine lv_iload hx hb dL_tie_5 (lv_at hl 4 rfl) ?_
      refine lv_aload_n hx hb dL_tie_7 rfl (lv_at hl 0 rfl) ?_
      refine q_alenQ X hH hf dL_tie_8 (fun v1 hf => ?_)
      refine lv_icmp_ge (tgt := 68) hx hb dL_tie_9 (by decide) (fun c2 => ?_) (fun c2 => ?_)
      · have hf := (if_pos c2).mp hf
        refine lv_iload_n hx hb dL_tie_68 rfl (lv_at hl 3 rfl) ?_
        exact q_retI X hH hr hlk hf (Nat.zero_le _) (Nat.zero_le _) dL_tie_69
      · have hf := (if_neg c2).mp hf
        refine lv_iconst (v := 0) hx hb dL_tie_12 (by decide) ?_
        refine lv_istore (lv' := [(5, .int 0), (0, .ref l0), (1, .int l1), (2, .int l2), (3, .int l3), (4, .int l4)]) hx hb dL_tie_13 hl (by decide) rfl (fun ls hl => ?_)
        exact hL15 4096 S l0 l1 l2 l3 l4 0 hf H locs ls hH (lv_sub hl [1, 2, 3, 4, 5, 0] rfl)
  refine lv_iconst (v := 0) hx hb dL_tie_0 (by decide) ?_
  refine lv_istore_n (lv' := [(3, .int 0), (0, .ref a0), (1, .int a1), (2, .int a2)]) hx hb dL_tie_1 rfl hl (by decide) rfl (fun ls hl => ?_)
  refine lv_iconst (v := 0) hx hb dL_tie_2 (by decide) ?_
  refine lv_istore (lv' := [(4, .int 0), (3, .int 0), (0, .ref a0), (1, .int a1), (2, .int a2)]) hx hb dL_tie_3 hl (by decide) rfl (fun ls hl => ?_)
  exact hL5 4096 S a0 a1 a2 0 0 hf H locs ls hH (lv_sub hl [2, 3, 4, 1, 0] rfl)
-- L_feud
def f_L_feud (S : PS) (a0 : Nat) (a1 : Int32) (post : Int32 → PS → Prop) : Prop :=
  lEQ S a0 fun v1 => (
  f_L_tie S a0 a1 ((((1 : Int32) <<< (v1 &&& 31)) - 1) &&& (a1 ^^^ (-1))) fun v3 S2 => (
  post v3 S2))
abbrev rm_L_feud : Room := { frames := 1, cells := 0, slots := 0, locals := 25 }
set_option maxHeartbeats 4000000 in
set_option maxRecDepth 100000 in
theorem c_L_feud (l : Launch) (D : va_G) (cy : Nat → ClassId) (G : p_GT) (hG : p_ok G) (S : PS) (a0 : Nat) (a1 : Int32) (post : Int32 → PS → Prop) (sz : Nat) (hf : f_L_feud S a0 a1 post) : p_Mi l D cy G S sz yL_feud (Cond.code yL_feud cL_feud 2 (some .int) :: wG) rm_L_feud [.ref a0, .int a1] 0 0 post := by
  refine q_start hG (Qc := fun A => va_Qi post (p_Post D cy A) A) mf_L_feud (Nat.le_of_ble_eq_true rfl) (own := RL) rfl ?_
  intro p e s m below meth c A X hr hlk hnm ls hl hH
  have hx := X.1.1
  have hb := X.1.2.1
  replace hl : lv_has ls 2 [(0, .ref a0), (1, .int a1)] := hl
  obtain ⟨H, hHe⟩ : ∃ H, H = s.heap := ⟨_, rfl⟩
  obtain ⟨locs, hlo⟩ : ∃ locs : List Loc, locs = [] := ⟨_, rfl⟩
  rw [← hHe, ← hlo] at hH
  show W p l e rm_L_feud s m [.ref a0, .int a1].toArray below meth c s.heap [] 0 0 _ _
  rw [← hHe, ← hlo]
  refine lv_aload_n hx hb dL_feud_0 rfl (lv_at hl 0 rfl) ?_
  refine lv_iload_n hx hb dL_feud_1 rfl (lv_at hl 1 rfl) ?_
  refine lv_iconst (v := 1) hx hb dL_feud_2 (by decide) ?_
  refine lv_aload_n hx hb dL_feud_3 rfl (lv_at hl 0 rfl) ?_
  refine q_alenQ X hH hf dL_feud_4 (fun v1 hf => ?_)
  refine lv_ishl hx hb dL_feud_5 ?_
  refine lv_iconst (v := 1) hx hb dL_feud_6 (by decide) ?_
  refine lv_isub hx hb dL_feud_7 ?_
  refine lv_iload_n hx hb dL_feud_8 rfl (lv_at hl 1 rfl) ?_
  refine lv_iconst (v := (-1)) hx hb dL_feud_9 (by decide) ?_
  refine lv_ixor hx hb dL_feud_10 ?_
  refine lv_iand hx hb dL_feud_11 ?_
  refine q_backI0 X hH (q_runS [.ref a0, .int a1, .int ((((1 : Int32) <<< (v1 &&& 31)) - 1) &&& (a1 ^^^ (-1)))] [] X hH hl (c_L_tie l D cy G X.2.2.2.1 S a0 a1 ((((1 : Int32) <<< (v1 &&& 31)) - 1) &&& (a1 ^^^ (-1))) _ _ hf) mf_L_tie tw_1151 tw_1150 ⟨Nat.le_of_ble_eq_true rfl, Nat.le_of_ble_eq_true rfl⟩ rfl (Nat.le_of_ble_eq_true rfl) dL_feud_12 ⟨Nat.le_of_ble_eq_true rfl, Nat.le_of_ble_eq_true rfl⟩) (fun v3 S2 hf H locs hH => ?_)
  exact q_retI X hH hr hlk hf (Nat.zero_le _) (Nat.zero_le _) dL_feud_15
-- L_least_
def f_L_least__J45 (post : Int32 → PS → Prop) (g6 : PS → Nat → Int32 → Int32 → Int32 → Int32 → Prop) (S : PS) (l0 : Nat) (l1 : Int32) (l2 : Int32) (l3 : Int32) (l4 : Int32) : Prop :=
  g6 S l0 l1 l2 l3 (l4 + 2)
def f_L_least__J34 (post : Int32 → PS → Prop) (g6 : PS → Nat → Int32 → Int32 → Int32 → Int32 → Prop) (S : PS) (l0 : Nat) (l1 : Int32) (l2 : Int32) (l3 : Int32) (l4 : Int32) : Prop :=
  f_L_feud S l0 l4 fun v2 S1 => (
  f_L_least__J45 post g6 S1 l0 l1 l2 (if v2 < l3 then v2 else l3) l4)
def f_L_least__L6 (post : Int32 → PS → Prop) : Nat → PS → Nat → Int32 → Int32 → Int32 → Int32 → Prop
  | 0, _, _, _, _, _, _ => False
  | n + 1, S, l0, l1, l2, l3, l4 =>
  lEQ S l0 fun v1 => (
  if ((1 : Int32) <<< (v1 &&& 31)) ≤ l4 then
    post l3 S
  else
    if l1 < 0 then
      f_L_least__J34 post (f_L_least__L6 post n) S l0 l1 l2 l3 l4
    else
      if ((l4 >>> (l1 &&& 31)) &&& 1) = ((l4 >>> (l2 &&& 31)) &&& 1) then
        f_L_least__J45 post (f_L_least__L6 post n) S l0 l1 l2 l3 l4
      else
        f_L_least__J34 post (f_L_least__L6 post n) S l0 l1 l2 l3 l4)
def f_L_least_ (S : PS) (a0 : Nat) (a1 : Int32) (a2 : Int32) (post : Int32 → PS → Prop) : Prop :=
  f_L_least__L6 post 4096 S a0 a1 a2 100000000 2
abbrev rm_L_least_ : Room := { frames := 2, cells := 0, slots := 0, locals := 46 }
set_option maxHeartbeats 4000000 in
set_option maxRecDepth 100000 in
theorem c_L_least_ (l : Launch) (D : va_G) (cy : Nat → ClassId) (G : p_GT) (hG : p_ok G) (S : PS) (a0 : Nat) (a1 : Int32) (a2 : Int32) (post : Int32 → PS → Prop) (sz : Nat) (hf : f_L_least_ S a0 a1 a2 post) : p_Mi l D cy G S sz yL_least_ (Cond.code yL_least_ cL_least_ 5 (some .int) :: wG) rm_L_least_ [.ref a0, .int a1, .int a2] 0 0 post := by
  refine q_start hG (Qc := fun A => va_Qi post (p_Post D cy A) A) mf_L_least_ (Nat.le_of_ble_eq_true rfl) (own := RL) rfl ?_
  intro p e s m below meth c A X hr hlk hnm ls hl hH
  have hx := X.1.1
  have hb := X.1.2.1
  replace hl : lv_has ls 5 [(0, .ref a0), (1, .int a1), (2, .int a2)] := hl
  obtain ⟨H, hHe⟩ : ∃ H, H = s.heap := ⟨_, rfl⟩
  obtain ⟨locs, hlo⟩ : ∃ locs : List Loc, locs = [] := ⟨_, rfl⟩
  rw [← hHe, ← hlo] at hH
  show W p l e rm_L_least_ s m [.ref a0, .int a1, .int a2].toArray below meth c s.heap [] 0 0 _ _
  rw [← hHe, ← hlo]
  have hL6 : ∀ (n6 : Nat) (S : PS) (l0 : Nat) (l1 : Int32) (l2 : Int32) (l3 : Int32) (l4 : Int32), f_L_least__L6 post n6 S l0 l1 l2 l3 l4 → ∀ (H : Heap) (locs : List Loc) (ls : Array Slot), p_H D cy S A s H locs → lv_has ls 5 [(0, .ref l0), (1, .int l1), (2, .int l2), (3, .int l3), (4, .int l4)] → W p l e rm_L_least_ s m [.ref a0, .int a1, .int a2].toArray below meth c H locs 0 0 (MQ below (va_Qi post (p_Post D cy A) A) [.ref a0, .int a1, .int a2].toArray s 0 0 A) (F0 m 6 ls []) := by
    intro n6
    induction n6 with
    | zero => intro S l0 l1 l2 l3 l4 hf; exact hf.elim
    | succ n6 ih6 =>
      intro S l0 l1 l2 l3 l4 hf H locs ls hH hl
      have hJ45 : ∀ (S : PS) (l0 : Nat) (l1 : Int32) (l2 : Int32) (l3 : Int32) (l4 : Int32), f_L_least__J45 post (f_L_least__L6 post n6) S l0 l1 l2 l3 l4 → ∀ (H : Heap) (locs : List Loc) (ls : Array Slot), p_H D cy S A s H locs → lv_has ls 5 [(0, .ref l0), (1, .int l1), (2, .int l2), (3, .int l3), (4, .int l4)] → W p l e rm_L_least_ s m [.ref a0, .int a1, .int a2].toArray below meth c H locs 0 0 (MQ below (va_Qi post (p_Post D cy A) A) [.ref a0, .int a1, .int a2].toArray s 0 0 A) (F0 m 45 ls []) := by
        intro S l0 l1 l2 l3 l4 hf H locs ls hH hl
        refine lv_iinc (v := l4 + 2) (lv' := [(4, .int (l4 + 2)), (0, .ref l0), (1, .int l1), (2, .int l2), (3, .int l3)]) hx hb dL_least__45 hl (k := 4) rfl rfl (by decide) rfl (fun ls hl => ?_)
        refine lv_goto (tgt := 6) hx hb dL_least__48 (by decide) ?_
        exact ih6 S l0 l1 l2 l3 (l4 + 2) hf H locs ls hH (lv_sub hl [1, 2, 3, 4, 0] rfl)
      have hJ34 : ∀ (S : PS) (l0 : Nat) (l1 : Int32) (l2 : Int32) (l3 : Int32) (l4 : Int32), f_L_least__J34 post (f_L_least__L6 post n6) S l0 l1 l2 l3 l4 → ∀ (H : Heap) (locs : List Loc) (ls : Array Slot), p_H D cy S A s H locs → lv_has ls 5 [(0, .ref l0), (1, .int l1), (2, .int l2), (3, .int l3), (4, .int l4)] → W p l e rm_L_least_ s m [.ref a0, .int a1, .int a2].toArray below meth c H locs 0 0 (MQ below (va_Qi post (p_Post D cy A) A) [.ref a0, .int a1, .int a2].toArray s 0 0 A) (F0 m 34 ls []) := by
        intro S l0 l1 l2 l3 l4 hf H locs ls hH hl
        refine lv_iload_n hx hb dL_least__34 rfl (lv_at hl 3 rfl) ?_
        refine lv_aload_n hx hb dL_least__35 rfl (lv_at hl 0 rfl) ?_
        refine lv_iload hx hb dL_least__36 (lv_at hl 4 rfl) ?_
        refine q_backI0 X hH (q_runS [.ref l0, .int l4] [.int l3] X hH hl (c_L_feud l D cy G X.2.2.2.1 S l0 l4 _ _ hf) mf_L_feud tw_1154 tw_1153 ⟨Nat.le_of_ble_eq_true rfl, Nat.le_of_ble_eq_true rfl⟩ rfl (Nat.le_of_ble_eq_true rfl) dL_least__38 ⟨Nat.le_of_ble_eq_true rfl, Nat.le_of_ble_eq_true rfl⟩) (fun v2 S1 hf H locs hH => ?_)
        refine q_mmin X hl tw_1160 tw_496 tw_47 tw_497 ⟨Nat.le_of_ble_eq_true rfl, Nat.le_of_ble_eq_true rfl⟩ (Nat.le_of_ble_eq_true rfl) (Nat.zero_le _) (Nat.zero_le _) dL_least__41 ?_
        refine lv_istore_n (lv' := [(3, .int ((if v2 < l3 then v2 else l3))), (0, .ref l0), (1, .int l1), (2, .int l2), (4, .int l4)]) hx hb dL_least__44 rfl hl (by decide) rfl (fun ls hl => ?_)
        exact hJ45 S1 l0 l1 l2 (if v2 < l3 then v2 else l3) l4 hf H locs ls hH (lv_sub hl [1, 2, 3, 0, 4] rfl)
      refine lv_iload hx hb dL_least__6 (lv_at hl 4 rfl) ?_
      refine lv_iconst (v := 1) hx hb dL_least__8 (by decide) ?_
      refine lv_aload_n hx hb dL_least__9 rfl (lv_at hl 0 rfl) ?_
      refine q_alenQ X hH hf dL_least__10 (fun v1 hf => ?_)
      refine lv_ishl hx hb dL_least__11 ?_
      refine lv_icmp_ge (tgt := 51) hx hb dL_least__12 (by decide) (fun c2 => ?_) (fun c2 => ?_)
      · have hf := (if_pos c2).mp hf
        refine lv_iload_n hx hb dL_least__51 rfl (lv_at hl 3 rfl) ?_
        exact q_retI X hH hr hlk hf (Nat.zero_le _) (Nat.zero_le _) dL_least__52
      · have hf := (if_neg c2).mp hf
        refine lv_iload_n hx hb dL_least__15 rfl (lv_at hl 1 rfl) ?_
        refine lv_if_lt (tgt := 34) hx hb dL_least__16 (by decide) (fun c3 => ?_) (fun c3 => ?_)
        · have hf := (if_pos c3).mp hf
          exact hJ34 S l0 l1 l2 l3 l4 hf H locs ls hH hl
        · have hf := (if_neg c3).mp hf
          refine lv_iload hx hb dL_least__19 (lv_at hl 4 rfl) ?_
          refine lv_iload_n hx hb dL_least__21 rfl (lv_at hl 1 rfl) ?_
          refine lv_ishr hx hb dL_least__22 ?_
          refine lv_iconst (v := 1) hx hb dL_least__23 (by decide) ?_
          refine lv_iand hx hb dL_least__24 ?_
          refine lv_iload hx hb dL_least__25 (lv_at hl 4 rfl) ?_
          refine lv_iload_n hx hb dL_least__27 rfl (lv_at hl 2 rfl) ?_
          refine lv_ishr hx hb dL_least__28 ?_
          refine lv_iconst (v := 1) hx hb dL_least__29 (by decide) ?_
          refine lv_iand hx hb dL_least__30 ?_
          refine lv_icmp_eq (tgt := 45) hx hb dL_least__31 (by decide) (fun c4 => ?_) (fun c4 => ?_)
          · have hf := (if_pos c4).mp hf
            exact hJ45 S l0 l1 l2 l3 l4 hf H locs ls hH hl
          · have hf := (if_neg c4).mp hf
            exact hJ34 S l0 l1 l2 l3 l4 hf H locs ls hH hl
  refine lv_ldc (v := 100000000) hx hb X.1.2.2.2.1 (X.1.2.2.2.2 _ tw_1159) dL_least__0 ?_
  refine lv_istore_n (lv' := [(3, .int 100000000), (0, .ref a0), (1, .int a1), (2, .int a2)]) hx hb dL_least__2 rfl hl (by decide) rfl (fun ls hl => ?_)
  refine lv_iconst (v := 2) hx hb dL_least__3 (by decide) ?_
  refine lv_istore (lv' := [(4, .int 2), (3, .int 100000000), (0, .ref a0), (1, .int a1), (2, .int a2)]) hx hb dL_least__4 hl (by decide) rfl (fun ls hl => ?_)
  exact hL6 4096 S a0 a1 a2 100000000 2 hf H locs ls hH (lv_sub hl [2, 3, 4, 1, 0] rfl)
-- L_bestMove
def f_L_bestMove (S : PS) (a0 : Nat) (bc bs : Nat) (post : Int32 → PS → Prop) : Prop :=
  isO S a0 11 (
  ∃ mc2 ms2 : Nat, mc2 ≤ bc ∧ ms2 ≤ bs ∧ (f_X7_bestMove S a0 mc2 ms2 (fun v3 S1 => (
    post v3 S1)) (fun E4 S4 => (
  (E4 = "java/util/NoSuchElementException" ∧ (
    post (-30000) S4))))))
abbrev rm_L_bestMove (mc ms : Nat) : Room := { frames := 7, cells := mc, slots := ms, locals := 127 }
set_option maxHeartbeats 4000000 in
set_option maxRecDepth 100000 in
theorem c_L_bestMove (l : Launch) (D : va_G) (cy : Nat → ClassId) (G : p_GT) (hG : p_ok G) (hst : l.stackTraces = false) (hGE : ∀ (A : Nat → Prop) (U : State) (H : Heap), G A U H → p_Ex A U H) (S : PS) (a0 : Nat) (mc ms : Nat) (post : Int32 → PS → Prop) (sz : Nat) (hf : f_L_bestMove S a0 mc ms post) : p_Xi l D cy G S sz yL_bestMove (Cond.codeWith yL_bestMove cL_bestMove 2 (some .int) [(0, 4, 5, 53)] :: wG) (rm_L_bestMove mc ms) [.ref a0] mc ms post (fun _ _ => False) := by
  refine q_startH hG (Qc := fun A => va_Qi post (p_Post D cy A) A) (XC := fun A => p_XC D cy A (fun _ _ => False)) mw_L_bestMove (Nat.le_of_ble_eq_true rfl) (own := RL) rfl ?_
  intro p e s m below meth c A X hr hlk hnm htab ls hl hH
  have hx := X.1.1
  have hb := X.1.2.1
  replace hl : lv_has ls 2 [(0, .ref a0)] := hl
  have main : ∀ (H : Heap) (locs : List Loc) (ls : Array Slot) (cells slots bc bs : Nat), f_L_bestMove S a0 bc bs post → p_H D cy S A s H locs → lv_has ls 2 [(0, .ref a0)] → cells + bc ≤ mc ∧ slots + bs ≤ ms → W p l e (rm_L_bestMove mc ms) s m [.ref a0].toArray below meth c H locs cells slots (vx_MQ below (va_Qi post (p_Post D cy A) A) (p_XC D cy A (fun _ _ => False)) [.ref a0].toArray s mc ms A) (F0 m 0 ls []) := by
    intro H locs ls cells slots bc bs hf hH hl hB
    refine lv_aload_n hx hb dL_bestMove_0 rfl (lv_at hl 0 rfl) ?_
    obtain ⟨hb1, hb2, mc2, ms2, hm1, hs1, hf⟩ := hf
    refine q_callXi X hH hB hm1 hs1 (q_runVx [] [] X hH hl (c_X7_bestMove l D cy G X.2.2.2.1 hst hGE S a0 mc2 ms2 _ _ _ hf) mf_X7_bestMove mv_X7_bestMove tw_941 ⟨Nat.le_of_ble_eq_true rfl, Nat.le_of_ble_eq_true rfl⟩ hb1 hb2 (T := TX7) (N := 12) rfl rfl (Nat.le_of_ble_eq_true rfl) dL_bestMove_1 ⟨Nat.le_trans (Nat.add_le_add_left hm1 _) hB.1, Nat.le_trans (Nat.add_le_add_left hs1 _) hB.2⟩) (fun E4 ce q9 S4 hf H locs cells slots hH hB hc1 hc2 hc3 => ?_) (fun v3 S1 hf H locs cells slots hH hB => ?_)
    · rcases hf with ⟨rfl, hf⟩
      · refine vx_catch X.1.2.2.2.1 [] ⟨0, 4, 5, 53⟩ [] htab (fun z hz => nomatch hz) (by decide) (by decide) (X.1.2.2.2.2 _ tw_899) (va_Nw.use (by decide +kernel) ((hGE _ _ _ X.2.2.2.2).1 _ (List.mem_of_getElem? (i := 6) rfl))) hc1 hc2 hc3 ?_
        refine lv_astore_n (lv' := [(1, .ref q9), (0, .ref a0)]) hx hb dL_bestMove_5 rfl hl (by decide) rfl (fun ls hl => ?_)
        refine lv_sipush (v := (-30000)) hx hb dL_bestMove_6 (by decide) ?_
        exact vx_ret (q_retI X hH hr hlk hf (Nat.le_trans (Nat.le_add_right _ _) hB.1) (Nat.le_trans (Nat.le_add_right _ _) hB.2) dL_bestMove_9)
    · exact vx_ret (q_retI X hH hr hlk hf (Nat.le_trans (Nat.le_add_right _ _) hB.1) (Nat.le_trans (Nat.le_add_right _ _) hB.2) dL_bestMove_4)
  exact main s.heap [] ls 0 0 mc ms hf hH hl ⟨by omega, by omega⟩
-- L_weights
def f_L_weights_J48 (post : Nat → PS → Prop) (g15 : PS → Nat → Nat → Nat → Int32 → Nat → Int32 → Prop) (S : PS) (bc bs : Nat) (l0 : Nat) (l1 : Int32) (l2 : Nat) (l3 : Int32) : Prop :=
  g15 S bc bs l0 l1 l2 (l3 + 1)
def f_L_weights_L23 (post : Nat → PS → Prop) (g15 : PS → Nat → Nat → Nat → Int32 → Nat → Int32 → Prop) : Nat → PS → Nat → Nat → Nat → Int32 → Nat → Int32 → Int32 → Prop
  | 0, _, _, _, _, _, _, _, _ => False
  | n + 1, S, bc, bs, l0, l1, l2, l3, l4 =>
  if l1 ≤ l4 then
    f_L_weights_J48 post g15 S bc bs l0 l1 l2 l3
  else
    aQ S l2 l3 fun v2 => (
    isO S l0 11 (
    ∃ mc4 ms4 : Nat, mc4 ≤ bc ∧ ms4 ≤ bs ∧ (f_X7_weight S l0 l3 l4 mc4 ms4 (fun v5 S3 => (
    sI S3 v2 0 l4 v5 fun S6 => (
    (f_L_weights_L23 post g15 n) S6 (bc - mc4) (bs - ms4) l0 l1 l2 l3 (l4 + 1)))) (fun _ _ => False))))
def f_L_weights_L15 (post : Nat → PS → Prop) : Nat → PS → Nat → Nat → Nat → Int32 → Nat → Int32 → Prop
  | 0, _, _, _, _, _, _, _ => False
  | n + 1, S, bc, bs, l0, l1, l2, l3 =>
  if l1 ≤ l3 then
    post l2 S
  else
    f_L_weights_L23 post (f_L_weights_L15 post n) 4096 S bc bs l0 l1 l2 l3 0
def f_L_weights (S : PS) (a0 : Nat) (bc bs : Nat) (post : Nat → PS → Prop) : Prop :=
  isO S a0 11 (
  ∃ mc2 ms2 : Nat, mc2 ≤ bc ∧ ms2 ≤ bs ∧ (f_X7_account S a0 0 mc2 ms2 (fun v3 S1 => (
  nM S1 v3 (bc - mc2) (bs - ms2) fun q4 S5 bc6 bs7 => (
  f_L_weights_L15 post 4096 S5 bc6 bs7 a0 v3 q4 0))) (fun _ _ => False)))
abbrev rm_L_weights (mc ms : Nat) : Room := { frames := 7, cells := mc, slots := ms, locals := 112 }
set_option maxHeartbeats 4000000 in
set_option maxRecDepth 100000 in
theorem c_L_weights (l : Launch) (D : va_G) (cy : Nat → ClassId) (G : p_GT) (hG : p_ok G) (hst : l.stackTraces = false) (hGE : ∀ (A : Nat → Prop) (U : State) (H : Heap), G A U H → p_Ex A U H) (hGQ : ∀ (A : Nat → Prop) (U : State) (H : Heap), G A U H → va_AOA .int U) (S : PS) (a0 : Nat) (mc ms : Nat) (post : Nat → PS → Prop) (sz : Nat) (hf : f_L_weights S a0 mc ms post) : p_Mr l D cy G S sz yL_weights (Cond.code yL_weights cL_weights 5 (some (.array (.array .int))) :: wG) (rm_L_weights mc ms) [.ref a0] mc ms post := by
  refine q_start hG (Qc := fun A => p_Qr D cy post A) mf_L_weights (Nat.le_of_ble_eq_true rfl) (own := RL) rfl ?_
  intro p e s m below meth c A X hr hlk hnm ls hl hH
  have hx := X.1.1
  have hb := X.1.2.1
  replace hl : lv_has ls 5 [(0, .ref a0)] := hl
  have main : ∀ (H : Heap) (locs : List Loc) (ls : Array Slot) (cells slots bc bs : Nat), f_L_weights S a0 bc bs post → p_H D cy S A s H locs → lv_has ls 5 [(0, .ref a0)] → cells + bc ≤ mc ∧ slots + bs ≤ ms → W p l e (rm_L_weights mc ms) s m [.ref a0].toArray below meth c H locs cells slots (MQ below (p_Qr D cy post A) [.ref a0].toArray s mc ms A) (F0 m 0 ls []) := by
    intro H locs ls cells slots bc bs hf hH hl hB
    have hL15 : ∀ (n15 : Nat) (S : PS) (bc bs : Nat) (l0 : Nat) (l1 : Int32) (l2 : Nat) (l3 : Int32), f_L_weights_L15 post n15 S bc bs l0 l1 l2 l3 → ∀ (H : Heap) (locs : List Loc) (ls : Array Slot) (cells slots : Nat), p_H D cy S A s H locs → lv_has ls 5 [(0, .ref l0), (1, .int l1), (2, .ref l2), (3, .int l3)] → cells + bc ≤ mc ∧ slots + bs ≤ ms → W p l e (rm_L_weights mc ms) s m [.ref a0].toArray below meth c H locs cells slots (MQ below (p_Qr D cy post A) [.ref a0].toArray s mc ms A) (F0 m 15 ls []) := by
      intro n15
      induction n15 with
      | zero => intro S bc bs l0 l1 l2 l3 hf; exact hf.elim
      | succ n15 ih15 =>
        intro S bc bs l0 l1 l2 l3 hf H locs ls cells slots hH hl hB
        have hL23 : ∀ (n23 : Nat) (S : PS) (bc bs : Nat) (l0 : Nat) (l1 : Int32) (l2 : Nat) (l3 : Int32) (l4 : Int32), f_L_weights_L23 post (f_L_weights_L15 post n15) n23 S bc bs l0 l1 l2 l3 l4 → ∀ (H : Heap) (locs : List Loc) (ls : Array Slot) (cells slots : Nat), p_H D cy S A s H locs → lv_has ls 5 [(0, .ref l0), (1, .int l1), (2, .ref l2), (3, .int l3), (4, .int l4)] → cells + bc ≤ mc ∧ slots + bs ≤ ms → W p l e (rm_L_weights mc ms) s m [.ref a0].toArray below meth c H locs cells slots (MQ below (p_Qr D cy post A) [.ref a0].toArray s mc ms A) (F0 m 23 ls []) := by
          intro n23
          induction n23 with
          | zero => intro S bc bs l0 l1 l2 l3 l4 hf; exact hf.elim
          | succ n23 ih23 =>
            intro S bc bs l0 l1 l2 l3 l4 hf H locs ls cells slots hH hl hB
            have hJ48 : ∀ (S : PS) (bc bs : Nat) (l0 : Nat) (l1 : Int32) (l2 : Nat) (l3 : Int32), f_L_weights_J48 post (f_L_weights_L15 post n15) S bc bs l0 l1 l2 l3 → ∀ (H : Heap) (locs : List Loc) (ls : Array Slot) (cells slots : Nat), p_H D cy S A s H locs → lv_has ls 5 [(0, .ref l0), (1, .int l1), (2, .ref l2), (3, .int l3)] → cells + bc ≤ mc ∧ slots + bs ≤ ms → W p l e (rm_L_weights mc ms) s m [.ref a0].toArray below meth c H locs cells slots (MQ below (p_Qr D cy post A) [.ref a0].toArray s mc ms A) (F0 m 48 ls []) := by
              intro S bc bs l0 l1 l2 l3 hf H locs ls cells slots hH hl hB
              refine lv_iinc (v := l3 + 1) (lv' := [(3, .int (l3 + 1)), (0, .ref l0), (1, .int l1), (2, .ref l2)]) hx hb dL_weights_48 hl (k := 3) rfl rfl (by decide) rfl (fun ls hl => ?_)
              refine lv_goto (tgt := 15) hx hb dL_weights_51 (by decide) ?_
              exact ih15 S bc bs l0 l1 l2 (l3 + 1) hf H locs ls cells slots hH (lv_sub hl [1, 2, 3, 0] rfl) hB
            refine lv_iload hx hb dL_weights_23 (lv_at hl 4 rfl) ?_
            refine lv_iload_n hx hb dL_weights_25 rfl (lv_at hl 1 rfl) ?_
            refine lv_icmp_ge (tgt := 48) hx hb dL_weights_26 (by decide) (fun c1 => ?_) (fun c1 => ?_)
            · have hf := (if_pos c1).mp hf
              exact hJ48 S bc bs l0 l1 l2 l3 hf H locs ls cells slots hH (lv_sub hl [0, 1, 2, 3] rfl) hB
            · have hf := (if_neg c1).mp hf
              refine lv_aload_n hx hb dL_weights_29 rfl (lv_at hl 2 rfl) ?_
              refine lv_iload_n hx hb dL_weights_30 rfl (lv_at hl 3 rfl) ?_
              refine q_aaldQ X hH hf dL_weights_31 (fun v2 hf => ?_)
              refine lv_iload hx hb dL_weights_32 (lv_at hl 4 rfl) ?_
              refine lv_aload_n hx hb dL_weights_34 rfl (lv_at hl 0 rfl) ?_
              refine lv_iload_n hx hb dL_weights_35 rfl (lv_at hl 3 rfl) ?_
              refine lv_iload hx hb dL_weights_36 (lv_at hl 4 rfl) ?_
              obtain ⟨hb1, hb2, mc4, ms4, hm1, hs1, hf⟩ := hf
              refine q_callXi X hH hB hm1 hs1 (q_runVx [.int l3, .int l4] [.int l4, .ref v2] X hH hl (c_X7_weight l D cy G X.2.2.2.1 hst hGE S l0 l3 l4 mc4 ms4 _ _ _ hf) mf_X7_weight mv_X7_weight tw_1146 ⟨Nat.le_of_ble_eq_true rfl, Nat.le_of_ble_eq_true rfl⟩ hb1 hb2 (T := TX7) (N := 12) rfl rfl (Nat.le_of_ble_eq_true rfl) dL_weights_38 ⟨Nat.le_trans (Nat.add_le_add_left hm1 _) hB.1, Nat.le_trans (Nat.add_le_add_left hs1 _) hB.2⟩) (fun _ _ _ _ hf _ _ _ _ _ _ _ _ _ => hf.elim) (fun v5 S3 hf H locs cells slots hH hB => ?_)
              refine q_iast X hH hf dL_weights_41 (fun S6 hf H locs hH => ?_)
              refine lv_iinc (v := l4 + 1) (lv' := [(4, .int (l4 + 1)), (0, .ref l0), (1, .int l1), (2, .ref l2), (3, .int l3)]) hx hb dL_weights_42 hl (k := 4) rfl rfl (by decide) rfl (fun ls hl => ?_)
              refine lv_goto (tgt := 23) hx hb dL_weights_45 (by decide) ?_
              exact ih23 S6 (bc - mc4) (bs - ms4) l0 l1 l2 l3 (l4 + 1) hf H locs ls cells slots hH (lv_sub hl [1, 2, 3, 4, 0] rfl) hB
        refine lv_iload_n hx hb dL_weights_15 rfl (lv_at hl 3 rfl) ?_
        refine lv_iload_n hx hb dL_weights_16 rfl (lv_at hl 1 rfl) ?_
        refine lv_icmp_ge (tgt := 54) hx hb dL_weights_17 (by decide) (fun c1 => ?_) (fun c1 => ?_)
        · have hf := (if_pos c1).mp hf
          refine lv_aload_n hx hb dL_weights_54 rfl (lv_at hl 2 rfl) ?_
          exact q_retR X hH hr (Or.inr ⟨_, rfl⟩) hlk hf (Nat.le_trans (Nat.le_add_right _ _) hB.1) (Nat.le_trans (Nat.le_add_right _ _) hB.2) dL_weights_55
        · have hf := (if_neg c1).mp hf
          refine lv_iconst (v := 0) hx hb dL_weights_20 (by decide) ?_
          refine lv_istore (lv' := [(4, .int 0), (0, .ref l0), (1, .int l1), (2, .ref l2), (3, .int l3)]) hx hb dL_weights_21 hl (by decide) rfl (fun ls hl => ?_)
          exact hL23 4096 S bc bs l0 l1 l2 l3 0 hf H locs ls cells slots hH (lv_sub hl [1, 2, 3, 4, 0] rfl) hB
    refine lv_aload_n hx hb dL_weights_0 rfl (lv_at hl 0 rfl) ?_
    refine lv_iconst (v := 0) hx hb dL_weights_1 (by decide) ?_
    obtain ⟨hb1, hb2, mc2, ms2, hm1, hs1, hf⟩ := hf
    refine q_callXi X hH hB hm1 hs1 (q_runVx [.int 0] [] X hH hl (c_X7_account l D cy G X.2.2.2.1 hst hGE S a0 0 mc2 ms2 _ _ _ hf) mf_X7_account mv_X7_account tw_835 ⟨Nat.le_of_ble_eq_true rfl, Nat.le_of_ble_eq_true rfl⟩ hb1 hb2 (T := TX7) (N := 12) rfl rfl (Nat.le_of_ble_eq_true rfl) dL_weights_2 ⟨Nat.le_trans (Nat.add_le_add_left hm1 _) hB.1, Nat.le_trans (Nat.add_le_add_left hs1 _) hB.2⟩) (fun _ _ _ _ hf _ _ _ _ _ _ _ _ _ => hf.elim) (fun v3 S1 hf H locs cells slots hH hB => ?_)
    refine lv_istore_n (lv' := [(1, .int v3), (0, .ref a0)]) hx hb dL_weights_5 rfl hl (by decide) rfl (fun ls hl => ?_)
    refine lv_iload_n hx hb dL_weights_6 rfl (lv_at hl 0 rfl) ?_
    refine lv_iload_n hx hb dL_weights_7 rfl (lv_at hl 0 rfl) ?_
    refine q_mna X hH hB hf tw_1144 (hGQ _ _ _ X.2.2.2.2) tw_98 dL_weights_8 (fun q4 S5 bc6 bs7 hf H locs cells slots hH hB => ?_)
    refine lv_astore_n (lv' := [(2, .ref q4), (1, .int v3), (0, .ref a0)]) hx hb dL_weights_12 rfl hl (by decide) rfl (fun ls hl => ?_)
    refine lv_iconst (v := 0) hx hb dL_weights_13 (by decide) ?_
    refine lv_istore_n (lv' := [(3, .int 0), (2, .ref q4), (1, .int v3), (0, .ref a0)]) hx hb dL_weights_14 rfl hl (by decide) rfl (fun ls hl => ?_)
    exact hL15 4096 S5 bc6 bs7 a0 v3 q4 0 hf H locs ls cells slots hH (lv_sub hl [3, 2, 1, 0] rfl) hB
  exact main s.heap [] ls 0 0 mc ms hf hH hl ⟨by omega, by omega⟩
-- L_leastAgain
def f_L_leastAgain (S : PS) (a0 : Nat) (bc bs : Nat) (post : Int32 → PS → Prop) : Prop :=
  isO S a0 11 (
  ∃ mc2 ms2 : Nat, mc2 ≤ bc ∧ ms2 ≤ bs ∧ (f_X7_leastAgain S a0 mc2 ms2 (fun v3 S1 => (
    post v3 S1)) (fun E4 S4 => (
  (E4 = "java/util/NoSuchElementException" ∧ (
    post (-30000) S4))))))
abbrev rm_L_leastAgain (mc ms : Nat) : Room := { frames := 7, cells := mc, slots := ms, locals := 111 }
set_option maxHeartbeats 4000000 in
set_option maxRecDepth 100000 in
theorem c_L_leastAgain (l : Launch) (D : va_G) (cy : Nat → ClassId) (G : p_GT) (hG : p_ok G) (hst : l.stackTraces = false) (hGE : ∀ (A : Nat → Prop) (U : State) (H : Heap), G A U H → p_Ex A U H) (S : PS) (a0 : Nat) (mc ms : Nat) (post : Int32 → PS → Prop) (sz : Nat) (hf : f_L_leastAgain S a0 mc ms post) : p_Xi l D cy G S sz yL_leastAgain (Cond.codeWith yL_leastAgain cL_leastAgain 2 (some .int) [(0, 4, 5, 53)] :: wG) (rm_L_leastAgain mc ms) [.ref a0] mc ms post (fun _ _ => False) := by
  refine q_startH hG (Qc := fun A => va_Qi post (p_Post D cy A) A) (XC := fun A => p_XC D cy A (fun _ _ => False)) mw_L_leastAgain (Nat.le_of_ble_eq_true rfl) (own := RL) rfl ?_
  intro p e s m below meth c A X hr hlk hnm htab ls hl hH
  have hx := X.1.1
  have hb := X.1.2.1
  replace hl : lv_has ls 2 [(0, .ref a0)] := hl
  have main : ∀ (H : Heap) (locs : List Loc) (ls : Array Slot) (cells slots bc bs : Nat), f_L_leastAgain S a0 bc bs post → p_H D cy S A s H locs → lv_has ls 2 [(0, .ref a0)] → cells + bc ≤ mc ∧ slots + bs ≤ ms → W p l e (rm_L_leastAgain mc ms) s m [.ref a0].toArray below meth c H locs cells slots (vx_MQ below (va_Qi post (p_Post D cy A) A) (p_XC D cy A (fun _ _ => False)) [.ref a0].toArray s mc ms A) (F0 m 0 ls []) := by
    intro H locs ls cells slots bc bs hf hH hl hB
    refine lv_aload_n hx hb dL_leastAgain_0 rfl (lv_at hl 0 rfl) ?_
    obtain ⟨hb1, hb2, mc2, ms2, hm1, hs1, hf⟩ := hf
    refine q_callXi X hH hB hm1 hs1 (q_runVx [] [] X hH hl (c_X7_leastAgain l D cy G X.2.2.2.1 hst hGE S a0 mc2 ms2 _ _ _ hf) mf_X7_leastAgain mv_X7_leastAgain tw_915 ⟨Nat.le_of_ble_eq_true rfl, Nat.le_of_ble_eq_true rfl⟩ hb1 hb2 (T := TX7) (N := 12) rfl rfl (Nat.le_of_ble_eq_true rfl) dL_leastAgain_1 ⟨Nat.le_trans (Nat.add_le_add_left hm1 _) hB.1, Nat.le_trans (Nat.add_le_add_left hs1 _) hB.2⟩) (fun E4 ce q9 S4 hf H locs cells slots hH hB hc1 hc2 hc3 => ?_) (fun v3 S1 hf H locs cells slots hH hB => ?_)
    · rcases hf with ⟨rfl, hf⟩
      · refine vx_catch X.1.2.2.2.1 [] ⟨0, 4, 5, 53⟩ [] htab (fun z hz => nomatch hz) (by decide) (by decide) (X.1.2.2.2.2 _ tw_899) (va_Nw.use (by decide +kernel) ((hGE _ _ _ X.2.2.2.2).1 _ (List.mem_of_getElem? (i := 6) rfl))) hc1 hc2 hc3 ?_
        refine lv_astore_n (lv' := [(1, .ref q9), (0, .ref a0)]) hx hb dL_leastAgain_5 rfl hl (by decide) rfl (fun ls hl => ?_)
        refine lv_sipush (v := (-30000)) hx hb dL_leastAgain_6 (by decide) ?_
        exact vx_ret (q_retI X hH hr hlk hf (Nat.le_trans (Nat.le_add_right _ _) hB.1) (Nat.le_trans (Nat.le_add_right _ _) hB.2) dL_leastAgain_9)
    · exact vx_ret (q_retI X hH hr hlk hf (Nat.le_trans (Nat.le_add_right _ _) hB.1) (Nat.le_trans (Nat.le_add_right _ _) hB.2) dL_leastAgain_4)
  exact main s.heap [] ls 0 0 mc ms hf hH hl ⟨by omega, by omega⟩
-- L_leastSides
def f_L_leastSides (S : PS) (a0 : Nat) (bc bs : Nat) (post : Int32 → PS → Prop) : Prop :=
  isO S a0 11 (
  ∃ mc2 ms2 : Nat, mc2 ≤ bc ∧ ms2 ≤ bs ∧ (f_X7_leastSides S a0 mc2 ms2 (fun v3 S1 => (
    post v3 S1)) (fun E4 S4 => (
  (E4 = "java/util/NoSuchElementException" ∧ (
    post (-30000) S4))))))
abbrev rm_L_leastSides (mc ms : Nat) : Room := { frames := 7, cells := mc, slots := ms, locals := 111 }
set_option maxHeartbeats 4000000 in
set_option maxRecDepth 100000 in
theorem c_L_leastSides (l : Launch) (D : va_G) (cy : Nat → ClassId) (G : p_GT) (hG : p_ok G) (hst : l.stackTraces = false) (hGE : ∀ (A : Nat → Prop) (U : State) (H : Heap), G A U H → p_Ex A U H) (S : PS) (a0 : Nat) (mc ms : Nat) (post : Int32 → PS → Prop) (sz : Nat) (hf : f_L_leastSides S a0 mc ms post) : p_Xi l D cy G S sz yL_leastSides (Cond.codeWith yL_leastSides cL_leastSides 2 (some .int) [(0, 4, 5, 53)] :: wG) (rm_L_leastSides mc ms) [.ref a0] mc ms post (fun _ _ => False) := by
  refine q_startH hG (Qc := fun A => va_Qi post (p_Post D cy A) A) (XC := fun A => p_XC D cy A (fun _ _ => False)) mw_L_leastSides (Nat.le_of_ble_eq_true rfl) (own := RL) rfl ?_
  intro p e s m below meth c A X hr hlk hnm htab ls hl hH
  have hx := X.1.1
  have hb := X.1.2.1
  replace hl : lv_has ls 2 [(0, .ref a0)] := hl
  have main : ∀ (H : Heap) (locs : List Loc) (ls : Array Slot) (cells slots bc bs : Nat), f_L_leastSides S a0 bc bs post → p_H D cy S A s H locs → lv_has ls 2 [(0, .ref a0)] → cells + bc ≤ mc ∧ slots + bs ≤ ms → W p l e (rm_L_leastSides mc ms) s m [.ref a0].toArray below meth c H locs cells slots (vx_MQ below (va_Qi post (p_Post D cy A) A) (p_XC D cy A (fun _ _ => False)) [.ref a0].toArray s mc ms A) (F0 m 0 ls []) := by
    intro H locs ls cells slots bc bs hf hH hl hB
    refine lv_aload_n hx hb dL_leastSides_0 rfl (lv_at hl 0 rfl) ?_
    obtain ⟨hb1, hb2, mc2, ms2, hm1, hs1, hf⟩ := hf
    refine q_callXi X hH hB hm1 hs1 (q_runVx [] [] X hH hl (c_X7_leastSides l D cy G X.2.2.2.1 hst hGE S a0 mc2 ms2 _ _ _ hf) mf_X7_leastSides mv_X7_leastSides tw_929 ⟨Nat.le_of_ble_eq_true rfl, Nat.le_of_ble_eq_true rfl⟩ hb1 hb2 (T := TX7) (N := 12) rfl rfl (Nat.le_of_ble_eq_true rfl) dL_leastSides_1 ⟨Nat.le_trans (Nat.add_le_add_left hm1 _) hB.1, Nat.le_trans (Nat.add_le_add_left hs1 _) hB.2⟩) (fun E4 ce q9 S4 hf H locs cells slots hH hB hc1 hc2 hc3 => ?_) (fun v3 S1 hf H locs cells slots hH hB => ?_)
    · rcases hf with ⟨rfl, hf⟩
      · refine vx_catch X.1.2.2.2.1 [] ⟨0, 4, 5, 53⟩ [] htab (fun z hz => nomatch hz) (by decide) (by decide) (X.1.2.2.2.2 _ tw_899) (va_Nw.use (by decide +kernel) ((hGE _ _ _ X.2.2.2.2).1 _ (List.mem_of_getElem? (i := 6) rfl))) hc1 hc2 hc3 ?_
        refine lv_astore_n (lv' := [(1, .ref q9), (0, .ref a0)]) hx hb dL_leastSides_5 rfl hl (by decide) rfl (fun ls hl => ?_)
        refine lv_sipush (v := (-30000)) hx hb dL_leastSides_6 (by decide) ?_
        exact vx_ret (q_retI X hH hr hlk hf (Nat.le_trans (Nat.le_add_right _ _) hB.1) (Nat.le_trans (Nat.le_add_right _ _) hB.2) dL_leastSides_9)
    · exact vx_ret (q_retI X hH hr hlk hf (Nat.le_trans (Nat.le_add_right _ _) hB.1) (Nat.le_trans (Nat.le_add_right _ _) hB.2) dL_leastSides_4)
  exact main s.heap [] ls 0 0 mc ms hf hH hl ⟨by omega, by omega⟩
-- L_joined
def f_L_joined (S : PS) (a0 : Nat) (a1 : Int32) (a2 : Int32) (bc bs : Nat) (post : Int32 → PS → Prop) : Prop :=
  isO S a0 11 (
  ∃ mc2 ms2 : Nat, mc2 ≤ bc ∧ ms2 ≤ bs ∧ (f_X7_joined S a0 a1 a2 mc2 ms2 (fun v3 S1 => (
    post v3 S1)) (fun E4 S4 => (
  (E4 = "java/util/NoSuchElementException" ∧ (
    post (-30000) S4))))))
abbrev rm_L_joined (mc ms : Nat) : Room := { frames := 7, cells := mc, slots := ms, locals := 116 }
set_option maxHeartbeats 4000000 in
set_option maxRecDepth 100000 in
theorem c_L_joined (l : Launch) (D : va_G) (cy : Nat → ClassId) (G : p_GT) (hG : p_ok G) (hst : l.stackTraces = false) (hGE : ∀ (A : Nat → Prop) (U : State) (H : Heap), G A U H → p_Ex A U H) (S : PS) (a0 : Nat) (a1 : Int32) (a2 : Int32) (mc ms : Nat) (post : Int32 → PS → Prop) (sz : Nat) (hf : f_L_joined S a0 a1 a2 mc ms post) : p_Xi l D cy G S sz yL_joined (Cond.codeWith yL_joined cL_joined 4 (some .int) [(0, 6, 7, 53)] :: wG) (rm_L_joined mc ms) [.ref a0, .int a1, .int a2] mc ms post (fun _ _ => False) := by
  refine q_startH hG (Qc := fun A => va_Qi post (p_Post D cy A) A) (XC := fun A => p_XC D cy A (fun _ _ => False)) mw_L_joined (Nat.le_of_ble_eq_true rfl) (own := RL) rfl ?_
  intro p e s m below meth c A X hr hlk hnm htab ls hl hH
  have hx := X.1.1
  have hb := X.1.2.1
  replace hl : lv_has ls 4 [(0, .ref a0), (1, .int a1), (2, .int a2)] := hl
  have main : ∀ (H : Heap) (locs : List Loc) (ls : Array Slot) (cells slots bc bs : Nat), f_L_joined S a0 a1 a2 bc bs post → p_H D cy S A s H locs → lv_has ls 4 [(0, .ref a0), (1, .int a1), (2, .int a2)] → cells + bc ≤ mc ∧ slots + bs ≤ ms → W p l e (rm_L_joined mc ms) s m [.ref a0, .int a1, .int a2].toArray below meth c H locs cells slots (vx_MQ below (va_Qi post (p_Post D cy A) A) (p_XC D cy A (fun _ _ => False)) [.ref a0, .int a1, .int a2].toArray s mc ms A) (F0 m 0 ls []) := by
    intro H locs ls cells slots bc bs hf hH hl hB
    refine lv_aload_n hx hb dL_joined_0 rfl (lv_at hl 0 rfl) ?_
    refine lv_iload_n hx hb dL_joined_1 rfl (lv_at hl 1 rfl) ?_
    refine lv_iload_n hx hb dL_joined_2 rfl (lv_at hl 2 rfl) ?_
    obtain ⟨hb1, hb2, mc2, ms2, hm1, hs1, hf⟩ := hf
    refine q_callXi X hH hB hm1 hs1 (q_runVx [.int a1, .int a2] [] X hH hl (c_X7_joined l D cy G X.2.2.2.1 hst hGE S a0 a1 a2 mc2 ms2 _ _ _ hf) mf_X7_joined mv_X7_joined tw_900 ⟨Nat.le_of_ble_eq_true rfl, Nat.le_of_ble_eq_true rfl⟩ hb1 hb2 (T := TX7) (N := 12) rfl rfl (Nat.le_of_ble_eq_true rfl) dL_joined_3 ⟨Nat.le_trans (Nat.add_le_add_left hm1 _) hB.1, Nat.le_trans (Nat.add_le_add_left hs1 _) hB.2⟩) (fun E4 ce q9 S4 hf H locs cells slots hH hB hc1 hc2 hc3 => ?_) (fun v3 S1 hf H locs cells slots hH hB => ?_)
    · rcases hf with ⟨rfl, hf⟩
      · refine vx_catch X.1.2.2.2.1 [] ⟨0, 6, 7, 53⟩ [] htab (fun z hz => nomatch hz) (by decide) (by decide) (X.1.2.2.2.2 _ tw_899) (va_Nw.use (by decide +kernel) ((hGE _ _ _ X.2.2.2.2).1 _ (List.mem_of_getElem? (i := 6) rfl))) hc1 hc2 hc3 ?_
        refine lv_astore_n (lv' := [(3, .ref q9), (0, .ref a0), (1, .int a1), (2, .int a2)]) hx hb dL_joined_7 rfl hl (by decide) rfl (fun ls hl => ?_)
        refine lv_sipush (v := (-30000)) hx hb dL_joined_8 (by decide) ?_
        exact vx_ret (q_retI X hH hr hlk hf (Nat.le_trans (Nat.le_add_right _ _) hB.1) (Nat.le_trans (Nat.le_add_right _ _) hB.2) dL_joined_11)
    · exact vx_ret (q_retI X hH hr hlk hf (Nat.le_trans (Nat.le_add_right _ _) hB.1) (Nat.le_trans (Nat.le_add_right _ _) hB.2) dL_joined_6)
  exact main s.heap [] ls 0 0 mc ms hf hH hl ⟨by omega, by omega⟩
-- L_met
def f_L_met (S : PS) (a0 : Nat) (bc bs : Nat) (post : Int32 → PS → Prop) : Prop :=
  isO S a0 11 (
  ∃ mc2 ms2 : Nat, mc2 ≤ bc ∧ ms2 ≤ bs ∧ (f_X7_met S a0 mc2 ms2 (fun v3 S1 => (
    post v3 S1)) (fun E4 S4 => (
  (E4 = "java/util/NoSuchElementException" ∧ (
    post (-30000) S4))))))
abbrev rm_L_met (mc ms : Nat) : Room := { frames := 7, cells := mc, slots := ms, locals := 114 }
set_option maxHeartbeats 4000000 in
set_option maxRecDepth 100000 in
theorem c_L_met (l : Launch) (D : va_G) (cy : Nat → ClassId) (G : p_GT) (hG : p_ok G) (hst : l.stackTraces = false) (hGE : ∀ (A : Nat → Prop) (U : State) (H : Heap), G A U H → p_Ex A U H) (S : PS) (a0 : Nat) (mc ms : Nat) (post : Int32 → PS → Prop) (sz : Nat) (hf : f_L_met S a0 mc ms post) : p_Xi l D cy G S sz yL_met (Cond.codeWith yL_met cL_met 2 (some .int) [(0, 4, 5, 53)] :: wG) (rm_L_met mc ms) [.ref a0] mc ms post (fun _ _ => False) := by
  refine q_startH hG (Qc := fun A => va_Qi post (p_Post D cy A) A) (XC := fun A => p_XC D cy A (fun _ _ => False)) mw_L_met (Nat.le_of_ble_eq_true rfl) (own := RL) rfl ?_
  intro p e s m below meth c A X hr hlk hnm htab ls hl hH
  have hx := X.1.1
  have hb := X.1.2.1
  replace hl : lv_has ls 2 [(0, .ref a0)] := hl
  have main : ∀ (H : Heap) (locs : List Loc) (ls : Array Slot) (cells slots bc bs : Nat), f_L_met S a0 bc bs post → p_H D cy S A s H locs → lv_has ls 2 [(0, .ref a0)] → cells + bc ≤ mc ∧ slots + bs ≤ ms → W p l e (rm_L_met mc ms) s m [.ref a0].toArray below meth c H locs cells slots (vx_MQ below (va_Qi post (p_Post D cy A) A) (p_XC D cy A (fun _ _ => False)) [.ref a0].toArray s mc ms A) (F0 m 0 ls []) := by
    intro H locs ls cells slots bc bs hf hH hl hB
    refine lv_aload_n hx hb dL_met_0 rfl (lv_at hl 0 rfl) ?_
    obtain ⟨hb1, hb2, mc2, ms2, hm1, hs1, hf⟩ := hf
    refine q_callXi X hH hB hm1 hs1 (q_runVx [] [] X hH hl (c_X7_met l D cy G X.2.2.2.1 hst hGE S a0 mc2 ms2 _ _ _ hf) mf_X7_met mv_X7_met tw_922 ⟨Nat.le_of_ble_eq_true rfl, Nat.le_of_ble_eq_true rfl⟩ hb1 hb2 (T := TX7) (N := 12) rfl rfl (Nat.le_of_ble_eq_true rfl) dL_met_1 ⟨Nat.le_trans (Nat.add_le_add_left hm1 _) hB.1, Nat.le_trans (Nat.add_le_add_left hs1 _) hB.2⟩) (fun E4 ce q9 S4 hf H locs cells slots hH hB hc1 hc2 hc3 => ?_) (fun v3 S1 hf H locs cells slots hH hB => ?_)
    · rcases hf with ⟨rfl, hf⟩
      · refine vx_catch X.1.2.2.2.1 [] ⟨0, 4, 5, 53⟩ [] htab (fun z hz => nomatch hz) (by decide) (by decide) (X.1.2.2.2.2 _ tw_899) (va_Nw.use (by decide +kernel) ((hGE _ _ _ X.2.2.2.2).1 _ (List.mem_of_getElem? (i := 6) rfl))) hc1 hc2 hc3 ?_
        refine lv_astore_n (lv' := [(1, .ref q9), (0, .ref a0)]) hx hb dL_met_5 rfl hl (by decide) rfl (fun ls hl => ?_)
        refine lv_sipush (v := (-30000)) hx hb dL_met_6 (by decide) ?_
        exact vx_ret (q_retI X hH hr hlk hf (Nat.le_trans (Nat.le_add_right _ _) hB.1) (Nat.le_trans (Nat.le_add_right _ _) hB.2) dL_met_9)
    · exact vx_ret (q_retI X hH hr hlk hf (Nat.le_trans (Nat.le_add_right _ _) hB.1) (Nat.le_trans (Nat.le_add_right _ _) hB.2) dL_met_4)
  exact main s.heap [] ls 0 0 mc ms hf hH hl ⟨by omega, by omega⟩
-- L_ranked
def f_L_ranked (S : PS) (a0 : Nat) (a1 : Int32) (a2 : Int32) (bc bs : Nat) (post : Int32 → PS → Prop) : Prop :=
  isO S a0 11 (
  ∃ mc2 ms2 : Nat, mc2 ≤ bc ∧ ms2 ≤ bs ∧ (f_X7_ranked S a0 a1 a2 mc2 ms2 (fun v3 S1 => (
    post v3 S1)) (fun E4 S4 => (
  (E4 = "java/util/NoSuchElementException" ∧ (
    post (-30000) S4))))))
abbrev rm_L_ranked (mc ms : Nat) : Room := { frames := 7, cells := mc, slots := ms, locals := 150 }
set_option maxHeartbeats 4000000 in
set_option maxRecDepth 100000 in
theorem c_L_ranked (l : Launch) (D : va_G) (cy : Nat → ClassId) (G : p_GT) (hG : p_ok G) (hst : l.stackTraces = false) (hGE : ∀ (A : Nat → Prop) (U : State) (H : Heap), G A U H → p_Ex A U H) (S : PS) (a0 : Nat) (a1 : Int32) (a2 : Int32) (mc ms : Nat) (post : Int32 → PS → Prop) (sz : Nat) (hf : f_L_ranked S a0 a1 a2 mc ms post) : p_Xi l D cy G S sz yL_ranked (Cond.codeWith yL_ranked cL_ranked 4 (some .int) [(0, 6, 7, 53)] :: wG) (rm_L_ranked mc ms) [.ref a0, .int a1, .int a2] mc ms post (fun _ _ => False) := by
  refine q_startH hG (Qc := fun A => va_Qi post (p_Post D cy A) A) (XC := fun A => p_XC D cy A (fun _ _ => False)) mw_L_ranked (Nat.le_of_ble_eq_true rfl) (own := RL) rfl ?_
  intro p e s m below meth c A X hr hlk hnm htab ls hl hH
  have hx := X.1.1
  have hb := X.1.2.1
  replace hl : lv_has ls 4 [(0, .ref a0), (1, .int a1), (2, .int a2)] := hl
  have main : ∀ (H : Heap) (locs : List Loc) (ls : Array Slot) (cells slots bc bs : Nat), f_L_ranked S a0 a1 a2 bc bs post → p_H D cy S A s H locs → lv_has ls 4 [(0, .ref a0), (1, .int a1), (2, .int a2)] → cells + bc ≤ mc ∧ slots + bs ≤ ms → W p l e (rm_L_ranked mc ms) s m [.ref a0, .int a1, .int a2].toArray below meth c H locs cells slots (vx_MQ below (va_Qi post (p_Post D cy A) A) (p_XC D cy A (fun _ _ => False)) [.ref a0, .int a1, .int a2].toArray s mc ms A) (F0 m 0 ls []) := by
    intro H locs ls cells slots bc bs hf hH hl hB
    refine lv_aload_n hx hb dL_ranked_0 rfl (lv_at hl 0 rfl) ?_
    refine lv_iload_n hx hb dL_ranked_1 rfl (lv_at hl 1 rfl) ?_
    refine lv_iload_n hx hb dL_ranked_2 rfl (lv_at hl 2 rfl) ?_
    obtain ⟨hb1, hb2, mc2, ms2, hm1, hs1, hf⟩ := hf
    refine q_callXi X hH hB hm1 hs1 (q_runVx [.int a1, .int a2] [] X hH hl (c_X7_ranked l D cy G X.2.2.2.1 hst hGE S a0 a1 a2 mc2 ms2 _ _ _ hf) mf_X7_ranked mv_X7_ranked tw_615 ⟨Nat.le_of_ble_eq_true rfl, Nat.le_of_ble_eq_true rfl⟩ hb1 hb2 (T := TX7) (N := 12) rfl rfl (Nat.le_of_ble_eq_true rfl) dL_ranked_3 ⟨Nat.le_trans (Nat.add_le_add_left hm1 _) hB.1, Nat.le_trans (Nat.add_le_add_left hs1 _) hB.2⟩) (fun E4 ce q9 S4 hf H locs cells slots hH hB hc1 hc2 hc3 => ?_) (fun v3 S1 hf H locs cells slots hH hB => ?_)
    · rcases hf with ⟨rfl, hf⟩
      · refine vx_catch X.1.2.2.2.1 [] ⟨0, 6, 7, 53⟩ [] htab (fun z hz => nomatch hz) (by decide) (by decide) (X.1.2.2.2.2 _ tw_899) (va_Nw.use (by decide +kernel) ((hGE _ _ _ X.2.2.2.2).1 _ (List.mem_of_getElem? (i := 6) rfl))) hc1 hc2 hc3 ?_
        refine lv_astore_n (lv' := [(3, .ref q9), (0, .ref a0), (1, .int a1), (2, .int a2)]) hx hb dL_ranked_7 rfl hl (by decide) rfl (fun ls hl => ?_)
        refine lv_sipush (v := (-30000)) hx hb dL_ranked_8 (by decide) ?_
        exact vx_ret (q_retI X hH hr hlk hf (Nat.le_trans (Nat.le_add_right _ _) hB.1) (Nat.le_trans (Nat.le_add_right _ _) hB.2) dL_ranked_11)
    · exact vx_ret (q_retI X hH hr hlk hf (Nat.le_trans (Nat.le_add_right _ _) hB.1) (Nat.le_trans (Nat.le_add_right _ _) hB.2) dL_ranked_6)
  exact main s.heap [] ls 0 0 mc ms hf hH hl ⟨by omega, by omega⟩
-- L_isLine
def f_L_isLine_L12 (adK : Nat → Nat) (post : Int32 → PS → Prop) : Nat → PS → Nat → Nat → Nat → Int32 → Nat → Int32 → Prop
  | 0, _, _, _, _, _, _, _ => False
  | n + 1, S, bc, bs, l0, l1, l2, l3 =>
  if l1 ≤ l3 then
    nZ .boolean 1 (post 1 S)
  else
    isO S l0 11 (
    ∃ mc3 ms3 : Nat, mc3 ≤ bc ∧ ms3 ≤ bs ∧ (f_X7_character S l0 l3 mc3 ms3 (fun v4 S2 => (
    f_J0_charAt_5068e_u adK S2 l2 l3 fun v6 S5 => (
    if v4 = v6 then
      (f_L_isLine_L12 adK post n) S5 (bc - mc3) (bs - ms3) l0 l1 l2 (l3 + 1)
    else
      nZ .boolean 0 (post 0 S5)))) (fun _ _ => False)))
def f_L_isLine (adK : Nat → Nat) (S : PS) (a0 : Nat) (a1 : Int32) (a2 : Nat) (bc bs : Nat) (post : Int32 → PS → Prop) : Prop :=
  f_J0_length_8abf5_u adK S a2 fun v2 S1 => (
  if a1 = v2 then
    f_L_isLine_L12 adK post 4096 S1 bc bs a0 a1 a2 0
  else
    nZ .boolean 0 (post 0 S1))
abbrev rm_L_isLine (mc ms : Nat) : Room := { frames := 7, cells := mc, slots := ms, locals := 111 }
set_option maxHeartbeats 4000000 in
set_option maxRecDepth 100000 in
theorem c_L_isLine (l : Launch) (D : va_G) (cy : Nat → ClassId) (G : p_GT) (hG : p_ok G) (hGC : ∀ (A : Nat → Prop) (U : State) (H : Heap), G A U H → gC A U H) (hst : l.stackTraces = false) (hGE : ∀ (A : Nat → Prop) (U : State) (H : Heap), G A U H → p_Ex A U H) (hGF : ∀ (A : Nat → Prop) (U : State) (H : Heap), G A U H → gF A U H) (adK adV : Nat → Nat) (hGK : ∀ (A : Nat → Prop) (U : State) (H : Heap), G A U H → gK adK adV A U H) (S : PS) (a0 : Nat) (a1 : Int32) (a2 : Nat) (mc ms : Nat) (post : Int32 → PS → Prop) (sz : Nat) (hf : f_L_isLine adK S a0 a1 a2 mc ms post) : p_Mi l D cy G S sz yL_isLine (Cond.code yL_isLine cL_isLine 4 (some .boolean) :: wG) (rm_L_isLine mc ms) [.ref a0, .int a1, .ref a2] mc ms post := by
  refine q_start hG (Qc := fun A => va_Qi post (p_Post D cy A) A) mf_L_isLine (Nat.le_of_ble_eq_true rfl) (own := RL) rfl ?_
  intro p e s m below meth c A X hr hlk hnm ls hl hH
  have hx := X.1.1
  have hb := X.1.2.1
  replace hl : lv_has ls 4 [(0, .ref a0), (1, .int a1), (2, .ref a2)] := hl
  have main : ∀ (H : Heap) (locs : List Loc) (ls : Array Slot) (cells slots bc bs : Nat), f_L_isLine adK S a0 a1 a2 bc bs post → p_H D cy S A s H locs → lv_has ls 4 [(0, .ref a0), (1, .int a1), (2, .ref a2)] → cells + bc ≤ mc ∧ slots + bs ≤ ms → W p l e (rm_L_isLine mc ms) s m [.ref a0, .int a1, .ref a2].toArray below meth c H locs cells slots (MQ below (va_Qi post (p_Post D cy A) A) [.ref a0, .int a1, .ref a2].toArray s mc ms A) (F0 m 0 ls []) := by
    intro H locs ls cells slots bc bs hf hH hl hB
    have hL12 : ∀ (n12 : Nat) (S : PS) (bc bs : Nat) (l0 : Nat) (l1 : Int32) (l2 : Nat) (l3 : Int32), f_L_isLine_L12 adK post n12 S bc bs l0 l1 l2 l3 → ∀ (H : Heap) (locs : List Loc) (ls : Array Slot) (cells slots : Nat), p_H D cy S A s H locs → lv_has ls 4 [(0, .ref l0), (1, .int l1), (2, .ref l2), (3, .int l3)] → cells + bc ≤ mc ∧ slots + bs ≤ ms → W p l e (rm_L_isLine mc ms) s m [.ref a0, .int a1, .ref a2].toArray below meth c H locs cells slots (MQ below (va_Qi post (p_Post D cy A) A) [.ref a0, .int a1, .ref a2].toArray s mc ms A) (F0 m 12 ls []) := by
      intro n12
      induction n12 with
      | zero => intro S bc bs l0 l1 l2 l3 hf; exact hf.elim
      | succ n12 ih12 =>
        intro S bc bs l0 l1 l2 l3 hf H locs ls cells slots hH hl hB
        refine lv_iload_n hx hb dL_isLine_12 rfl (lv_at hl 3 rfl) ?_
        refine lv_iload_n hx hb dL_isLine_13 rfl (lv_at hl 1 rfl) ?_
        refine lv_icmp_ge (tgt := 38) hx hb dL_isLine_14 (by decide) (fun c1 => ?_) (fun c1 => ?_)
        · have hf := (if_pos c1).mp hf
          refine lv_iconst (v := 1) hx hb dL_isLine_38 (by decide) ?_
          exact q_retZ X hH hr hlk hf (Nat.le_trans (Nat.le_add_right _ _) hB.1) (Nat.le_trans (Nat.le_add_right _ _) hB.2) dL_isLine_39
        · have hf := (if_neg c1).mp hf
          refine lv_aload_n hx hb dL_isLine_17 rfl (lv_at hl 0 rfl) ?_
          refine lv_iload_n hx hb dL_isLine_18 rfl (lv_at hl 3 rfl) ?_
          obtain ⟨hb1, hb2, mc3, ms3, hm1, hs1, hf⟩ := hf
          refine q_callXi X hH hB hm1 hs1 (q_runVx [.int l3] [] X hH hl (c_X7_character l D cy G X.2.2.2.1 hst hGE hGF S l0 l3 mc3 ms3 _ _ _ hf) mf_X7_character mv_X7_character tw_1173 ⟨Nat.le_of_ble_eq_true rfl, Nat.le_of_ble_eq_true rfl⟩ hb1 hb2 (T := TX7) (N := 12) rfl rfl (Nat.le_of_ble_eq_true rfl) dL_isLine_19 ⟨Nat.le_trans (Nat.add_le_add_left hm1 _) hB.1, Nat.le_trans (Nat.add_le_add_left hs1 _) hB.2⟩) (fun _ _ _ _ hf _ _ _ _ _ _ _ _ _ => hf.elim) (fun v4 S2 hf H locs cells slots hH hB => ?_)
          refine lv_aload_n hx hb dL_isLine_22 rfl (lv_at hl 2 rfl) ?_
          refine lv_iload_n hx hb dL_isLine_23 rfl (lv_at hl 3 rfl) ?_
          refine q_backI0 X hH (u_J0_charAt_5068e hf (fun hf => by obtain ⟨kk9, hkk9, hek9, hf⟩ := hf; exact (q_runK [.int l3] [.int v4] X hH hl (c_J0_charAt_5068e l D cy G X.2.2.2.1 hGC hGF adK adV hGK S2 l2 l3 _ _ hf) mf_J0_charAt_5068e mv_J0_charAt_5068e tw_1190 ⟨Nat.le_of_ble_eq_true rfl, Nat.le_of_ble_eq_true rfl⟩ (hGK _ _ _ X.2.2.2.2) hkk9 hek9 rfl rfl (Nat.le_of_ble_eq_true rfl) dL_isLine_24 ⟨Nat.le_trans (Nat.le_add_right _ _) hB.1, Nat.le_trans (Nat.le_add_right _ _) hB.2⟩)) (fun hf => by obtain ⟨hb1, hb2, hf⟩ := hf; exact (q_runV [.int l3] [.int v4] X hH hl (c_J0_charAt_5068e_p l D cy G X.2.2.2.1 hGC hGF S2 l2 l3 _ _ hf) mf_J0_charAt_5068e mv_J0_charAt_5068e tw_1190 ⟨Nat.le_of_ble_eq_true rfl, Nat.le_of_ble_eq_true rfl⟩ hb1 hb2 (T := TJ0) (N := 4) rfl rfl (Nat.le_of_ble_eq_true rfl) dL_isLine_24 ⟨Nat.le_trans (Nat.le_add_right _ _) hB.1, Nat.le_trans (Nat.le_add_right _ _) hB.2⟩))) (fun v6 S5 hf H locs hH => ?_)
          refine lv_icmp_eq (tgt := 32) hx hb dL_isLine_27 (by decide) (fun c7 => ?_) (fun c7 => ?_)
          · have hf := (if_pos c7).mp hf
            refine lv_iinc (v := l3 + 1) (lv' := [(3, .int (l3 + 1)), (0, .ref l0), (1, .int l1), (2, .ref l2)]) hx hb dL_isLine_32 hl (k := 3) rfl rfl (by decide) rfl (fun ls hl => ?_)
            refine lv_goto (tgt := 12) hx hb dL_isLine_35 (by decide) ?_
            exact ih12 S5 (bc - mc3) (bs - ms3) l0 l1 l2 (l3 + 1) hf H locs ls cells slots hH (lv_sub hl [1, 2, 3, 0] rfl) hB
          · have hf := (if_neg c7).mp hf
            refine lv_iconst (v := 0) hx hb dL_isLine_30 (by decide) ?_
            exact q_retZ X hH hr hlk hf (Nat.le_trans (Nat.le_add_right _ _) hB.1) (Nat.le_trans (Nat.le_add_right _ _) hB.2) dL_isLine_31
    refine lv_iload_n hx hb dL_isLine_0 rfl (lv_at hl 1 rfl) ?_
    refine lv_aload_n hx hb dL_isLine_1 rfl (lv_at hl 2 rfl) ?_
    refine q_backI0 X hH (u_J0_length_8abf5 hf (fun hf => by obtain ⟨kk9, hkk9, hek9, hf⟩ := hf; exact (q_runK [] [.int a1] X hH hl (c_J0_length_8abf5 l D cy G X.2.2.2.1 hGC adK adV hGK S a2 _ _ hf) mf_J0_length_8abf5 mv_J0_length_8abf5 tw_1164 ⟨Nat.le_of_ble_eq_true rfl, Nat.le_of_ble_eq_true rfl⟩ (hGK _ _ _ X.2.2.2.2) hkk9 hek9 rfl rfl (Nat.le_of_ble_eq_true rfl) dL_isLine_2 ⟨Nat.le_trans (Nat.le_add_right _ _) hB.1, Nat.le_trans (Nat.le_add_right _ _) hB.2⟩)) (fun hf => by obtain ⟨hb1, hb2, hf⟩ := hf; exact (q_runV [] [.int a1] X hH hl (c_J0_length_8abf5_p l D cy G X.2.2.2.1 hGC S a2 _ _ hf) mf_J0_length_8abf5 mv_J0_length_8abf5 tw_1164 ⟨Nat.le_of_ble_eq_true rfl, Nat.le_of_ble_eq_true rfl⟩ hb1 hb2 (T := TJ0) (N := 4) rfl rfl (Nat.le_of_ble_eq_true rfl) dL_isLine_2 ⟨Nat.le_trans (Nat.le_add_right _ _) hB.1, Nat.le_trans (Nat.le_add_right _ _) hB.2⟩))) (fun v2 S1 hf H locs hH => ?_)
    refine lv_icmp_eq (tgt := 10) hx hb dL_isLine_5 (by decide) (fun c3 => ?_) (fun c3 => ?_)
    · have hf := (if_pos c3).mp hf
      refine lv_iconst (v := 0) hx hb dL_isLine_10 (by decide) ?_
      refine lv_istore_n (lv' := [(3, .int 0), (0, .ref a0), (1, .int a1), (2, .ref a2)]) hx hb dL_isLine_11 rfl hl (by decide) rfl (fun ls hl => ?_)
      exact hL12 4096 S1 bc bs a0 a1 a2 0 hf H locs ls cells slots hH (lv_sub hl [1, 2, 3, 0] rfl) hB
    · have hf := (if_neg c3).mp hf
      refine lv_iconst (v := 0) hx hb dL_isLine_8 (by decide) ?_
      exact q_retZ X hH hr hlk hf (Nat.le_trans (Nat.le_add_right _ _) hB.1) (Nat.le_trans (Nat.le_add_right _ _) hB.2) dL_isLine_9
  exact main s.heap [] ls 0 0 mc ms hf hH hl ⟨by omega, by omega⟩
-- L_least
def f_L_least (S : PS) (a0 : Nat) (bc bs : Nat) (post : Int32 → PS → Prop) : Prop :=
  isO S a0 11 (
  ∃ mc2 ms2 : Nat, mc2 ≤ bc ∧ ms2 ≤ bs ∧ (f_X7_least S a0 mc2 ms2 (fun v3 S1 => (
    post v3 S1)) (fun E4 S4 => (
  (E4 = "java/util/NoSuchElementException" ∧ (
    post (-30000) S4))))))
abbrev rm_L_least (mc ms : Nat) : Room := { frames := 7, cells := mc, slots := ms, locals := 135 }
set_option maxHeartbeats 4000000 in
set_option maxRecDepth 100000 in
theorem c_L_least (l : Launch) (D : va_G) (cy : Nat → ClassId) (G : p_GT) (hG : p_ok G) (hst : l.stackTraces = false) (hGE : ∀ (A : Nat → Prop) (U : State) (H : Heap), G A U H → p_Ex A U H) (S : PS) (a0 : Nat) (mc ms : Nat) (post : Int32 → PS → Prop) (sz : Nat) (hf : f_L_least S a0 mc ms post) : p_Xi l D cy G S sz yL_least (Cond.codeWith yL_least cL_least 2 (some .int) [(0, 4, 5, 53)] :: wG) (rm_L_least mc ms) [.ref a0] mc ms post (fun _ _ => False) := by
  refine q_startH hG (Qc := fun A => va_Qi post (p_Post D cy A) A) (XC := fun A => p_XC D cy A (fun _ _ => False)) mw_L_least (Nat.le_of_ble_eq_true rfl) (own := RL) rfl ?_
  intro p e s m below meth c A X hr hlk hnm htab ls hl hH
  have hx := X.1.1
  have hb := X.1.2.1
  replace hl : lv_has ls 2 [(0, .ref a0)] := hl
  have main : ∀ (H : Heap) (locs : List Loc) (ls : Array Slot) (cells slots bc bs : Nat), f_L_least S a0 bc bs post → p_H D cy S A s H locs → lv_has ls 2 [(0, .ref a0)] → cells + bc ≤ mc ∧ slots + bs ≤ ms → W p l e (rm_L_least mc ms) s m [.ref a0].toArray below meth c H locs cells slots (vx_MQ below (va_Qi post (p_Post D cy A) A) (p_XC D cy A (fun _ _ => False)) [.ref a0].toArray s mc ms A) (F0 m 0 ls []) := by
    intro H locs ls cells slots bc bs hf hH hl hB
    refine lv_aload_n hx hb dL_least_0 rfl (lv_at hl 0 rfl) ?_
    obtain ⟨hb1, hb2, mc2, ms2, hm1, hs1, hf⟩ := hf
    refine q_callXi X hH hB hm1 hs1 (q_runVx [] [] X hH hl (c_X7_least l D cy G X.2.2.2.1 hst hGE S a0 mc2 ms2 _ _ _ hf) mf_X7_least mv_X7_least tw_907 ⟨Nat.le_of_ble_eq_true rfl, Nat.le_of_ble_eq_true rfl⟩ hb1 hb2 (T := TX7) (N := 12) rfl rfl (Nat.le_of_ble_eq_true rfl) dL_least_1 ⟨Nat.le_trans (Nat.add_le_add_left hm1 _) hB.1, Nat.le_trans (Nat.add_le_add_left hs1 _) hB.2⟩) (fun E4 ce q9 S4 hf H locs cells slots hH hB hc1 hc2 hc3 => ?_) (fun v3 S1 hf H locs cells slots hH hB => ?_)
    · rcases hf with ⟨rfl, hf⟩
      · refine vx_catch X.1.2.2.2.1 [] ⟨0, 4, 5, 53⟩ [] htab (fun z hz => nomatch hz) (by decide) (by decide) (X.1.2.2.2.2 _ tw_899) (va_Nw.use (by decide +kernel) ((hGE _ _ _ X.2.2.2.2).1 _ (List.mem_of_getElem? (i := 6) rfl))) hc1 hc2 hc3 ?_
        refine lv_astore_n (lv' := [(1, .ref q9), (0, .ref a0)]) hx hb dL_least_5 rfl hl (by decide) rfl (fun ls hl => ?_)
        refine lv_sipush (v := (-30000)) hx hb dL_least_6 (by decide) ?_
        exact vx_ret (q_retI X hH hr hlk hf (Nat.le_trans (Nat.le_add_right _ _) hB.1) (Nat.le_trans (Nat.le_add_right _ _) hB.2) dL_least_9)
    · exact vx_ret (q_retI X hH hr hlk hf (Nat.le_trans (Nat.le_add_right _ _) hB.1) (Nat.le_trans (Nat.le_add_right _ _) hB.2) dL_least_4)
  exact main s.heap [] ls 0 0 mc ms hf hH hl ⟨by omega, by omega⟩
-- L_household
def f_L_household (S : PS) (a0 : Nat) (bc bs : Nat) (post : Int32 → PS → Prop) : Prop :=
  isO S a0 11 (
  ∃ mc2 ms2 : Nat, mc2 ≤ bc ∧ ms2 ≤ bs ∧ (f_X7_household S a0 mc2 ms2 (fun v3 S1 => (
    post v3 S1)) (fun E4 S4 => (
  (E4 = "java/lang/UnsupportedOperationException" ∧ (
    ∃ mc6 ms6 : Nat, mc6 ≤ (bc - mc2) ∧ ms6 ≤ (bs - ms2) ∧ (f_L_told S4 a0 mc6 ms6 fun v7 S5 => (
    post v7 S5))))))))
abbrev rm_L_household (mc ms : Nat) : Room := { frames := 8, cells := mc, slots := ms, locals := 176 }
set_option maxHeartbeats 4000000 in
set_option maxRecDepth 100000 in
theorem c_L_household (l : Launch) (D : va_G) (cy : Nat → ClassId) (G : p_GT) (hG : p_ok G) (hst : l.stackTraces = false) (hGE : ∀ (A : Nat → Prop) (U : State) (H : Heap), G A U H → p_Ex A U H) (S : PS) (a0 : Nat) (mc ms : Nat) (post : Int32 → PS → Prop) (sz : Nat) (hf : f_L_household S a0 mc ms post) : p_Xi l D cy G S sz yL_household (Cond.codeWith yL_household cL_household 2 (some .int) [(0, 4, 5, 23)] :: wG) (rm_L_household mc ms) [.ref a0] mc ms post (fun _ _ => False) := by
  refine q_startH hG (Qc := fun A => va_Qi post (p_Post D cy A) A) (XC := fun A => p_XC D cy A (fun _ _ => False)) mw_L_household (Nat.le_of_ble_eq_true rfl) (own := RL) rfl ?_
  intro p e s m below meth c A X hr hlk hnm htab ls hl hH
  have hx := X.1.1
  have hb := X.1.2.1
  replace hl : lv_has ls 2 [(0, .ref a0)] := hl
  have main : ∀ (H : Heap) (locs : List Loc) (ls : Array Slot) (cells slots bc bs : Nat), f_L_household S a0 bc bs post → p_H D cy S A s H locs → lv_has ls 2 [(0, .ref a0)] → cells + bc ≤ mc ∧ slots + bs ≤ ms → W p l e (rm_L_household mc ms) s m [.ref a0].toArray below meth c H locs cells slots (vx_MQ below (va_Qi post (p_Post D cy A) A) (p_XC D cy A (fun _ _ => False)) [.ref a0].toArray s mc ms A) (F0 m 0 ls []) := by
    intro H locs ls cells slots bc bs hf hH hl hB
    refine lv_aload_n hx hb dL_household_0 rfl (lv_at hl 0 rfl) ?_
    obtain ⟨hb1, hb2, mc2, ms2, hm1, hs1, hf⟩ := hf
    refine q_callXi X hH hB hm1 hs1 (q_runVx [] [] X hH hl (c_X7_household l D cy G X.2.2.2.1 hst hGE S a0 mc2 ms2 _ _ _ hf) mf_X7_household mv_X7_household tw_985 ⟨Nat.le_of_ble_eq_true rfl, Nat.le_of_ble_eq_true rfl⟩ hb1 hb2 (T := TX7) (N := 12) rfl rfl (Nat.le_of_ble_eq_true rfl) dL_household_1 ⟨Nat.le_trans (Nat.add_le_add_left hm1 _) hB.1, Nat.le_trans (Nat.add_le_add_left hs1 _) hB.2⟩) (fun E4 ce q9 S4 hf H locs cells slots hH hB hc1 hc2 hc3 => ?_) (fun v3 S1 hf H locs cells slots hH hB => ?_)
    · rcases hf with ⟨rfl, hf⟩
      · refine vx_catch X.1.2.2.2.1 [] ⟨0, 4, 5, 23⟩ [] htab (fun z hz => nomatch hz) (by decide) (by decide) (X.1.2.2.2.2 _ tw_984) (va_Nw.use (by decide +kernel) ((hGE _ _ _ X.2.2.2.2).1 _ (List.mem_of_getElem? (i := 3) rfl))) hc1 hc2 hc3 ?_
        refine lv_astore_n (lv' := [(1, .ref q9), (0, .ref a0)]) hx hb dL_household_5 rfl hl (by decide) rfl (fun ls hl => ?_)
        refine lv_aload_n hx hb dL_household_6 rfl (lv_at hl 1 rfl) ?_
        obtain ⟨mc6, ms6, hm1, hs1, hf⟩ := hf
        refine q_backIB X hH hB hm1 hs1 (q_runS [.ref a0] [] X hH hl (c_L_told l D cy G X.2.2.2.1 hst hGE S4 a0 mc6 ms6 _ _ hf) mf_L_told tw_1075 tw_1074 ⟨Nat.le_of_ble_eq_true rfl, Nat.le_of_ble_eq_true rfl⟩ rfl (Nat.le_of_ble_eq_true rfl) dL_household_7 ⟨Nat.le_trans (Nat.add_le_add_left hm1 _) hB.1, Nat.le_trans (Nat.add_le_add_left hs1 _) hB.2⟩) (fun v7 S5 hf H locs cells slots hH hB => ?_)
        exact vx_ret (q_retI X hH hr hlk hf (Nat.le_trans (Nat.le_add_right _ _) hB.1) (Nat.le_trans (Nat.le_add_right _ _) hB.2) dL_household_10)
    · exact vx_ret (q_retI X hH hr hlk hf (Nat.le_trans (Nat.le_add_right _ _) hB.1) (Nat.le_trans (Nat.le_add_right _ _) hB.2) dL_household_4)
  exact main s.heap [] ls 0 0 mc ms hf hH hl ⟨by omega, by omega⟩
-- L_leave
def f_L_leave (S : PS) (a0 : Nat) (a1 : Int32) (bc bs : Nat) (post : Int32 → PS → Prop) : Prop :=
  isO S a0 11 (
  ∃ mc2 ms2 : Nat, mc2 ≤ bc ∧ ms2 ≤ bs ∧ (f_X7_leave S a0 a1 mc2 ms2 (fun v3 S1 => (
    post v3 S1)) (fun E4 S4 => (
  (E4 = "java/lang/UnsupportedOperationException" ∧ (
    ∃ mc6 ms6 : Nat, mc6 ≤ (bc - mc2) ∧ ms6 ≤ (bs - ms2) ∧ (f_L_told S4 a0 mc6 ms6 fun v7 S5 => (
    post v7 S5))))))))
abbrev rm_L_leave (mc ms : Nat) : Room := { frames := 8, cells := mc, slots := ms, locals := 177 }
set_option maxHeartbeats 4000000 in
set_option maxRecDepth 100000 in
theorem c_L_leave (l : Launch) (D : va_G) (cy : Nat → ClassId) (G : p_GT) (hG : p_ok G) (hst : l.stackTraces = false) (hGE : ∀ (A : Nat → Prop) (U : State) (H : Heap), G A U H → p_Ex A U H) (S : PS) (a0 : Nat) (a1 : Int32) (mc ms : Nat) (post : Int32 → PS → Prop) (sz : Nat) (hf : f_L_leave S a0 a1 mc ms post) : p_Xi l D cy G S sz yL_leave (Cond.codeWith yL_leave cL_leave 3 (some .int) [(0, 5, 6, 23)] :: wG) (rm_L_leave mc ms) [.ref a0, .int a1] mc ms post (fun _ _ => False) := by
  refine q_startH hG (Qc := fun A => va_Qi post (p_Post D cy A) A) (XC := fun A => p_XC D cy A (fun _ _ => False)) mw_L_leave (Nat.le_of_ble_eq_true rfl) (own := RL) rfl ?_
  intro p e s m below meth c A X hr hlk hnm htab ls hl hH
  have hx := X.1.1
  have hb := X.1.2.1
  replace hl : lv_has ls 3 [(0, .ref a0), (1, .int a1)] := hl
  have main : ∀ (H : Heap) (locs : List Loc) (ls : Array Slot) (cells slots bc bs : Nat), f_L_leave S a0 a1 bc bs post → p_H D cy S A s H locs → lv_has ls 3 [(0, .ref a0), (1, .int a1)] → cells + bc ≤ mc ∧ slots + bs ≤ ms → W p l e (rm_L_leave mc ms) s m [.ref a0, .int a1].toArray below meth c H locs cells slots (vx_MQ below (va_Qi post (p_Post D cy A) A) (p_XC D cy A (fun _ _ => False)) [.ref a0, .int a1].toArray s mc ms A) (F0 m 0 ls []) := by
    intro H locs ls cells slots bc bs hf hH hl hB
    refine lv_aload_n hx hb dL_leave_0 rfl (lv_at hl 0 rfl) ?_
    refine lv_iload_n hx hb dL_leave_1 rfl (lv_at hl 1 rfl) ?_
    obtain ⟨hb1, hb2, mc2, ms2, hm1, hs1, hf⟩ := hf
    refine q_callXi X hH hB hm1 hs1 (q_runVx [.int a1] [] X hH hl (c_X7_leave l D cy G X.2.2.2.1 hst hGE S a0 a1 mc2 ms2 _ _ _ hf) mf_X7_leave mv_X7_leave tw_1106 ⟨Nat.le_of_ble_eq_true rfl, Nat.le_of_ble_eq_true rfl⟩ hb1 hb2 (T := TX7) (N := 12) rfl rfl (Nat.le_of_ble_eq_true rfl) dL_leave_2 ⟨Nat.le_trans (Nat.add_le_add_left hm1 _) hB.1, Nat.le_trans (Nat.add_le_add_left hs1 _) hB.2⟩) (fun E4 ce q9 S4 hf H locs cells slots hH hB hc1 hc2 hc3 => ?_) (fun v3 S1 hf H locs cells slots hH hB => ?_)
    · rcases hf with ⟨rfl, hf⟩
      · refine vx_catch X.1.2.2.2.1 [] ⟨0, 5, 6, 23⟩ [] htab (fun z hz => nomatch hz) (by decide) (by decide) (X.1.2.2.2.2 _ tw_984) (va_Nw.use (by decide +kernel) ((hGE _ _ _ X.2.2.2.2).1 _ (List.mem_of_getElem? (i := 3) rfl))) hc1 hc2 hc3 ?_
        refine lv_astore_n (lv' := [(2, .ref q9), (0, .ref a0), (1, .int a1)]) hx hb dL_leave_6 rfl hl (by decide) rfl (fun ls hl => ?_)
        refine lv_aload_n hx hb dL_leave_7 rfl (lv_at hl 1 rfl) ?_
        obtain ⟨mc6, ms6, hm1, hs1, hf⟩ := hf
        refine q_backIB X hH hB hm1 hs1 (q_runS [.ref a0] [] X hH hl (c_L_told l D cy G X.2.2.2.1 hst hGE S4 a0 mc6 ms6 _ _ hf) mf_L_told tw_1075 tw_1074 ⟨Nat.le_of_ble_eq_true rfl, Nat.le_of_ble_eq_true rfl⟩ rfl (Nat.le_of_ble_eq_true rfl) dL_leave_8 ⟨Nat.le_trans (Nat.add_le_add_left hm1 _) hB.1, Nat.le_trans (Nat.add_le_add_left hs1 _) hB.2⟩) (fun v7 S5 hf H locs cells slots hH hB => ?_)
        exact vx_ret (q_retI X hH hr hlk hf (Nat.le_trans (Nat.le_add_right _ _) hB.1) (Nat.le_trans (Nat.le_add_right _ _) hB.2) dL_leave_11)
    · exact vx_ret (q_retI X hH hr hlk hf (Nat.le_trans (Nat.le_add_right _ _) hB.1) (Nat.le_trans (Nat.le_add_right _ _) hB.2) dL_leave_5)
  exact main s.heap [] ls 0 0 mc ms hf hH hl ⟨by omega, by omega⟩
-- L_bond
def f_L_bond (S : PS) (a0 : Nat) (a1 : Int32) (a2 : Int32) (a3 : Int32) (bc bs : Nat) (post : Int32 → PS → Prop) : Prop :=
  isO S a0 11 (
  ∃ mc2 ms2 : Nat, mc2 ≤ bc ∧ ms2 ≤ bs ∧ (f_X7_bond S a0 a1 a2 a3 mc2 ms2 (fun v3 S1 => (
    post v3 S1)) (fun E4 S4 => (
  (E4 = "java/lang/UnsupportedOperationException" ∧ (
    ∃ mc6 ms6 : Nat, mc6 ≤ (bc - mc2) ∧ ms6 ≤ (bs - ms2) ∧ (f_L_told S4 a0 mc6 ms6 fun v7 S5 => (
    post v7 S5))))))))
abbrev rm_L_bond (mc ms : Nat) : Room := { frames := 8, cells := mc, slots := ms, locals := 179 }
set_option maxHeartbeats 4000000 in
set_option maxRecDepth 100000 in
theorem c_L_bond (l : Launch) (D : va_G) (cy : Nat → ClassId) (G : p_GT) (hG : p_ok G) (hst : l.stackTraces = false) (hGE : ∀ (A : Nat → Prop) (U : State) (H : Heap), G A U H → p_Ex A U H) (S : PS) (a0 : Nat) (a1 : Int32) (a2 : Int32) (a3 : Int32) (mc ms : Nat) (post : Int32 → PS → Prop) (sz : Nat) (hf : f_L_bond S a0 a1 a2 a3 mc ms post) : p_Xi l D cy G S sz yL_bond (Cond.codeWith yL_bond cL_bond 5 (some .int) [(0, 7, 8, 23)] :: wG) (rm_L_bond mc ms) [.ref a0, .int a1, .int a2, .int a3] mc ms post (fun _ _ => False) := by
  refine q_startH hG (Qc := fun A => va_Qi post (p_Post D cy A) A) (XC := fun A => p_XC D cy A (fun _ _ => False)) mw_L_bond (Nat.le_of_ble_eq_true rfl) (own := RL) rfl ?_
  intro p e s m below meth c A X hr hlk hnm htab ls hl hH
  have hx := X.1.1
  have hb := X.1.2.1
  replace hl : lv_has ls 5 [(0, .ref a0), (1, .int a1), (2, .int a2), (3, .int a3)] := hl
  have main : ∀ (H : Heap) (locs : List Loc) (ls : Array Slot) (cells slots bc bs : Nat), f_L_bond S a0 a1 a2 a3 bc bs post → p_H D cy S A s H locs → lv_has ls 5 [(0, .ref a0), (1, .int a1), (2, .int a2), (3, .int a3)] → cells + bc ≤ mc ∧ slots + bs ≤ ms → W p l e (rm_L_bond mc ms) s m [.ref a0, .int a1, .int a2, .int a3].toArray below meth c H locs cells slots (vx_MQ below (va_Qi post (p_Post D cy A) A) (p_XC D cy A (fun _ _ => False)) [.ref a0, .int a1, .int a2, .int a3].toArray s mc ms A) (F0 m 0 ls []) := by
    intro H locs ls cells slots bc bs hf hH hl hB
    refine lv_aload_n hx hb dL_bond_0 rfl (lv_at hl 0 rfl) ?_
    refine lv_iload_n hx hb dL_bond_1 rfl (lv_at hl 1 rfl) ?_
    refine lv_iload_n hx hb dL_bond_2 rfl (lv_at hl 2 rfl) ?_
    refine lv_iload_n hx hb dL_bond_3 rfl (lv_at hl 3 rfl) ?_
    obtain ⟨hb1, hb2, mc2, ms2, hm1, hs1, hf⟩ := hf
    refine q_callXi X hH hB hm1 hs1 (q_runVx [.int a1, .int a2, .int a3] [] X hH hl (c_X7_bond l D cy G X.2.2.2.1 hst hGE S a0 a1 a2 a3 mc2 ms2 _ _ _ hf) mf_X7_bond mv_X7_bond tw_1094 ⟨Nat.le_of_ble_eq_true rfl, Nat.le_of_ble_eq_true rfl⟩ hb1 hb2 (T := TX7) (N := 12) rfl rfl (Nat.le_of_ble_eq_true rfl) dL_bond_4 ⟨Nat.le_trans (Nat.add_le_add_left hm1 _) hB.1, Nat.le_trans (Nat.add_le_add_left hs1 _) hB.2⟩) (fun E4 ce q9 S4 hf H locs cells slots hH hB hc1 hc2 hc3 => ?_) (fun v3 S1 hf H locs cells slots hH hB => ?_)
    · rcases hf with ⟨rfl, hf⟩
      · refine vx_catch X.1.2.2.2.1 [] ⟨0, 7, 8, 23⟩ [] htab (fun z hz => nomatch hz) (by decide) (by decide) (X.1.2.2.2.2 _ tw_984) (va_Nw.use (by decide +kernel) ((hGE _ _ _ X.2.2.2.2).1 _ (List.mem_of_getElem? (i := 3) rfl))) hc1 hc2 hc3 ?_
        refine lv_astore (lv' := [(4, .ref q9), (0, .ref a0), (1, .int a1), (2, .int a2), (3, .int a3)]) hx hb dL_bond_8 hl (by decide) rfl (fun ls hl => ?_)
        refine lv_aload_n hx hb dL_bond_10 rfl (lv_at hl 1 rfl) ?_
        obtain ⟨mc6, ms6, hm1, hs1, hf⟩ := hf
        refine q_backIB X hH hB hm1 hs1 (q_runS [.ref a0] [] X hH hl (c_L_told l D cy G X.2.2.2.1 hst hGE S4 a0 mc6 ms6 _ _ hf) mf_L_told tw_1075 tw_1074 ⟨Nat.le_of_ble_eq_true rfl, Nat.le_of_ble_eq_true rfl⟩ rfl (Nat.le_of_ble_eq_true rfl) dL_bond_11 ⟨Nat.le_trans (Nat.add_le_add_left hm1 _) hB.1, Nat.le_trans (Nat.add_le_add_left hs1 _) hB.2⟩) (fun v7 S5 hf H locs cells slots hH hB => ?_)
        exact vx_ret (q_retI X hH hr hlk hf (Nat.le_trans (Nat.le_add_right _ _) hB.1) (Nat.le_trans (Nat.le_add_right _ _) hB.2) dL_bond_14)
    · exact vx_ret (q_retI X hH hr hlk hf (Nat.le_trans (Nat.le_add_right _ _) hB.1) (Nat.le_trans (Nat.le_add_right _ _) hB.2) dL_bond_7)
  exact main s.heap [] ls 0 0 mc ms hf hH hl ⟨by omega, by omega⟩
-- L_loosen
def f_L_loosen (S : PS) (a0 : Nat) (a1 : Int32) (a2 : Int32) (bc bs : Nat) (post : Int32 → PS → Prop) : Prop :=
  isO S a0 11 (
  ∃ mc2 ms2 : Nat, mc2 ≤ bc ∧ ms2 ≤ bs ∧ (f_X7_loosen S a0 a1 a2 mc2 ms2 (fun v3 S1 => (
    post v3 S1)) (fun E4 S4 => (
  (E4 = "java/lang/UnsupportedOperationException" ∧ (
    ∃ mc6 ms6 : Nat, mc6 ≤ (bc - mc2) ∧ ms6 ≤ (bs - ms2) ∧ (f_L_told S4 a0 mc6 ms6 fun v7 S5 => (
    post v7 S5))))))))
abbrev rm_L_loosen (mc ms : Nat) : Room := { frames := 8, cells := mc, slots := ms, locals := 178 }
set_option maxHeartbeats 4000000 in
set_option maxRecDepth 100000 in
theorem c_L_loosen (l : Launch) (D : va_G) (cy : Nat → ClassId) (G : p_GT) (hG : p_ok G) (hst : l.stackTraces = false) (hGE : ∀ (A : Nat → Prop) (U : State) (H : Heap), G A U H → p_Ex A U H) (S : PS) (a0 : Nat) (a1 : Int32) (a2 : Int32) (mc ms : Nat) (post : Int32 → PS → Prop) (sz : Nat) (hf : f_L_loosen S a0 a1 a2 mc ms post) : p_Xi l D cy G S sz yL_loosen (Cond.codeWith yL_loosen cL_loosen 4 (some .int) [(0, 6, 7, 23)] :: wG) (rm_L_loosen mc ms) [.ref a0, .int a1, .int a2] mc ms post (fun _ _ => False) := by
  refine q_startH hG (Qc := fun A => va_Qi post (p_Post D cy A) A) (XC := fun A => p_XC D cy A (fun _ _ => False)) mw_L_loosen (Nat.le_of_ble_eq_true rfl) (own := RL) rfl ?_
  intro p e s m below meth c A X hr hlk hnm htab ls hl hH
  have hx := X.1.1
  have hb := X.1.2.1
  replace hl : lv_has ls 4 [(0, .ref a0), (1, .int a1), (2, .int a2)] := hl
  have main : ∀ (H : Heap) (locs : List Loc) (ls : Array Slot) (cells slots bc bs : Nat), f_L_loosen S a0 a1 a2 bc bs post → p_H D cy S A s H locs → lv_has ls 4 [(0, .ref a0), (1, .int a1), (2, .int a2)] → cells + bc ≤ mc ∧ slots + bs ≤ ms → W p l e (rm_L_loosen mc ms) s m [.ref a0, .int a1, .int a2].toArray below meth c H locs cells slots (vx_MQ below (va_Qi post (p_Post D cy A) A) (p_XC D cy A (fun _ _ => False)) [.ref a0, .int a1, .int a2].toArray s mc ms A) (F0 m 0 ls []) := by
    intro H locs ls cells slots bc bs hf hH hl hB
    refine lv_aload_n hx hb dL_loosen_0 rfl (lv_at hl 0 rfl) ?_
    refine lv_iload_n hx hb dL_loosen_1 rfl (lv_at hl 1 rfl) ?_
    refine lv_iload_n hx hb dL_loosen_2 rfl (lv_at hl 2 rfl) ?_
    obtain ⟨hb1, hb2, mc2, ms2, hm1, hs1, hf⟩ := hf
    refine q_callXi X hH hB hm1 hs1 (q_runVx [.int a1, .int a2] [] X hH hl (c_X7_loosen l D cy G X.2.2.2.1 hst hGE S a0 a1 a2 mc2 ms2 _ _ _ hf) mf_X7_loosen mv_X7_loosen tw_1121 ⟨Nat.le_of_ble_eq_true rfl, Nat.le_of_ble_eq_true rfl⟩ hb1 hb2 (T := TX7) (N := 12) rfl rfl (Nat.le_of_ble_eq_true rfl) dL_loosen_3 ⟨Nat.le_trans (Nat.add_le_add_left hm1 _) hB.1, Nat.le_trans (Nat.add_le_add_left hs1 _) hB.2⟩) (fun E4 ce q9 S4 hf H locs cells slots hH hB hc1 hc2 hc3 => ?_) (fun v3 S1 hf H locs cells slots hH hB => ?_)
    · rcases hf with ⟨rfl, hf⟩
      · refine vx_catch X.1.2.2.2.1 [] ⟨0, 6, 7, 23⟩ [] htab (fun z hz => nomatch hz) (by decide) (by decide) (X.1.2.2.2.2 _ tw_984) (va_Nw.use (by decide +kernel) ((hGE _ _ _ X.2.2.2.2).1 _ (List.mem_of_getElem? (i := 3) rfl))) hc1 hc2 hc3 ?_
        refine lv_astore_n (lv' := [(3, .ref q9), (0, .ref a0), (1, .int a1), (2, .int a2)]) hx hb dL_loosen_7 rfl hl (by decide) rfl (fun ls hl => ?_)
        refine lv_aload_n hx hb dL_loosen_8 rfl (lv_at hl 1 rfl) ?_
        obtain ⟨mc6, ms6, hm1, hs1, hf⟩ := hf
        refine q_backIB X hH hB hm1 hs1 (q_runS [.ref a0] [] X hH hl (c_L_told l D cy G X.2.2.2.1 hst hGE S4 a0 mc6 ms6 _ _ hf) mf_L_told tw_1075 tw_1074 ⟨Nat.le_of_ble_eq_true rfl, Nat.le_of_ble_eq_true rfl⟩ rfl (Nat.le_of_ble_eq_true rfl) dL_loosen_9 ⟨Nat.le_trans (Nat.add_le_add_left hm1 _) hB.1, Nat.le_trans (Nat.add_le_add_left hs1 _) hB.2⟩) (fun v7 S5 hf H locs cells slots hH hB => ?_)
        exact vx_ret (q_retI X hH hr hlk hf (Nat.le_trans (Nat.le_add_right _ _) hB.1) (Nat.le_trans (Nat.le_add_right _ _) hB.2) dL_loosen_12)
    · exact vx_ret (q_retI X hH hr hlk hf (Nat.le_trans (Nat.le_add_right _ _) hB.1) (Nat.le_trans (Nat.le_add_right _ _) hB.2) dL_loosen_6)
  exact main s.heap [] ls 0 0 mc ms hf hH hl ⟨by omega, by omega⟩
-- L_marry
def f_L_marry (S : PS) (a0 : Nat) (a1 : Int32) (a2 : Int32) (bc bs : Nat) (post : Int32 → PS → Prop) : Prop :=
  isO S a0 11 (
  ∃ mc2 ms2 : Nat, mc2 ≤ bc ∧ ms2 ≤ bs ∧ (f_X7_marry S a0 a1 a2 mc2 ms2 (fun v3 S1 => (
    post v3 S1)) (fun E4 S4 => (
  (E4 = "java/lang/UnsupportedOperationException" ∧ (
    ∃ mc6 ms6 : Nat, mc6 ≤ (bc - mc2) ∧ ms6 ≤ (bs - ms2) ∧ (f_L_told S4 a0 mc6 ms6 fun v7 S5 => (
    post v7 S5))))))))
abbrev rm_L_marry (mc ms : Nat) : Room := { frames := 8, cells := mc, slots := ms, locals := 178 }
set_option maxHeartbeats 4000000 in
set_option maxRecDepth 100000 in
theorem c_L_marry (l : Launch) (D : va_G) (cy : Nat → ClassId) (G : p_GT) (hG : p_ok G) (hst : l.stackTraces = false) (hGE : ∀ (A : Nat → Prop) (U : State) (H : Heap), G A U H → p_Ex A U H) (S : PS) (a0 : Nat) (a1 : Int32) (a2 : Int32) (mc ms : Nat) (post : Int32 → PS → Prop) (sz : Nat) (hf : f_L_marry S a0 a1 a2 mc ms post) : p_Xi l D cy G S sz yL_marry (Cond.codeWith yL_marry cL_marry 4 (some .int) [(0, 6, 7, 23)] :: wG) (rm_L_marry mc ms) [.ref a0, .int a1, .int a2] mc ms post (fun _ _ => False) := by
  refine q_startH hG (Qc := fun A => va_Qi post (p_Post D cy A) A) (XC := fun A => p_XC D cy A (fun _ _ => False)) mw_L_marry (Nat.le_of_ble_eq_true rfl) (own := RL) rfl ?_
  intro p e s m below meth c A X hr hlk hnm htab ls hl hH
  have hx := X.1.1
  have hb := X.1.2.1
  replace hl : lv_has ls 4 [(0, .ref a0), (1, .int a1), (2, .int a2)] := hl
  have main : ∀ (H : Heap) (locs : List Loc) (ls : Array Slot) (cells slots bc bs : Nat), f_L_marry S a0 a1 a2 bc bs post → p_H D cy S A s H locs → lv_has ls 4 [(0, .ref a0), (1, .int a1), (2, .int a2)] → cells + bc ≤ mc ∧ slots + bs ≤ ms → W p l e (rm_L_marry mc ms) s m [.ref a0, .int a1, .int a2].toArray below meth c H locs cells slots (vx_MQ below (va_Qi post (p_Post D cy A) A) (p_XC D cy A (fun _ _ => False)) [.ref a0, .int a1, .int a2].toArray s mc ms A) (F0 m 0 ls []) := by
    intro H locs ls cells slots bc bs hf hH hl hB
    refine lv_aload_n hx hb dL_marry_0 rfl (lv_at hl 0 rfl) ?_
    refine lv_iload_n hx hb dL_marry_1 rfl (lv_at hl 1 rfl) ?_
    refine lv_iload_n hx hb dL_marry_2 rfl (lv_at hl 2 rfl) ?_
    obtain ⟨hb1, hb2, mc2, ms2, hm1, hs1, hf⟩ := hf
    refine q_callXi X hH hB hm1 hs1 (q_runVx [.int a1, .int a2] [] X hH hl (c_X7_marry l D cy G X.2.2.2.1 hst hGE S a0 a1 a2 mc2 ms2 _ _ _ hf) mf_X7_marry mv_X7_marry tw_1113 ⟨Nat.le_of_ble_eq_true rfl, Nat.le_of_ble_eq_true rfl⟩ hb1 hb2 (T := TX7) (N := 12) rfl rfl (Nat.le_of_ble_eq_true rfl) dL_marry_3 ⟨Nat.le_trans (Nat.add_le_add_left hm1 _) hB.1, Nat.le_trans (Nat.add_le_add_left hs1 _) hB.2⟩) (fun E4 ce q9 S4 hf H locs cells slots hH hB hc1 hc2 hc3 => ?_) (fun v3 S1 hf H locs cells slots hH hB => ?_)
    · rcases hf with ⟨rfl, hf⟩
      · refine vx_catch X.1.2.2.2.1 [] ⟨0, 6, 7, 23⟩ [] htab (fun z hz => nomatch hz) (by decide) (by decide) (X.1.2.2.2.2 _ tw_984) (va_Nw.use (by decide +kernel) ((hGE _ _ _ X.2.2.2.2).1 _ (List.mem_of_getElem? (i := 3) rfl))) hc1 hc2 hc3 ?_
        refine lv_astore_n (lv' := [(3, .ref q9), (0, .ref a0), (1, .int a1), (2, .int a2)]) hx hb dL_marry_7 rfl hl (by decide) rfl (fun ls hl => ?_)
        refine lv_aload_n hx hb dL_marry_8 rfl (lv_at hl 1 rfl) ?_
        obtain ⟨mc6, ms6, hm1, hs1, hf⟩ := hf
        refine q_backIB X hH hB hm1 hs1 (q_runS [.ref a0] [] X hH hl (c_L_told l D cy G X.2.2.2.1 hst hGE S4 a0 mc6 ms6 _ _ hf) mf_L_told tw_1075 tw_1074 ⟨Nat.le_of_ble_eq_true rfl, Nat.le_of_ble_eq_true rfl⟩ rfl (Nat.le_of_ble_eq_true rfl) dL_marry_9 ⟨Nat.le_trans (Nat.add_le_add_left hm1 _) hB.1, Nat.le_trans (Nat.add_le_add_left hs1 _) hB.2⟩) (fun v7 S5 hf H locs cells slots hH hB => ?_)
        exact vx_ret (q_retI X hH hr hlk hf (Nat.le_trans (Nat.le_add_right _ _) hB.1) (Nat.le_trans (Nat.le_add_right _ _) hB.2) dL_marry_12)
    · exact vx_ret (q_retI X hH hr hlk hf (Nat.le_trans (Nat.le_add_right _ _) hB.1) (Nat.le_trans (Nat.le_add_right _ _) hB.2) dL_marry_6)
  exact main s.heap [] ls 0 0 mc ms hf hH hl ⟨by omega, by omega⟩
-- L_stand
def f_L_stand (S : PS) (a0 : Nat) (a1 : Int32) (a2 : Int32) (bc bs : Nat) (post : Int32 → PS → Prop) : Prop :=
  isO S a0 11 (
  ∃ mc2 ms2 : Nat, mc2 ≤ bc ∧ ms2 ≤ bs ∧ (f_X7_stand S a0 a1 a2 mc2 ms2 (fun v3 S1 => (
    post v3 S1)) (fun E4 S4 => (
  (E4 = "java/lang/UnsupportedOperationException" ∧ (
    ∃ mc6 ms6 : Nat, mc6 ≤ (bc - mc2) ∧ ms6 ≤ (bs - ms2) ∧ (f_L_told S4 a0 mc6 ms6 fun v7 S5 => (
    post v7 S5))))))))
abbrev rm_L_stand (mc ms : Nat) : Room := { frames := 8, cells := mc, slots := ms, locals := 178 }
set_option maxHeartbeats 4000000 in
set_option maxRecDepth 100000 in
theorem c_L_stand (l : Launch) (D : va_G) (cy : Nat → ClassId) (G : p_GT) (hG : p_ok G) (hst : l.stackTraces = false) (hGE : ∀ (A : Nat → Prop) (U : State) (H : Heap), G A U H → p_Ex A U H) (S : PS) (a0 : Nat) (a1 : Int32) (a2 : Int32) (mc ms : Nat) (post : Int32 → PS → Prop) (sz : Nat) (hf : f_L_stand S a0 a1 a2 mc ms post) : p_Xi l D cy G S sz yL_stand (Cond.codeWith yL_stand cL_stand 4 (some .int) [(0, 6, 7, 23)] :: wG) (rm_L_stand mc ms) [.ref a0, .int a1, .int a2] mc ms post (fun _ _ => False) := by
  refine q_startH hG (Qc := fun A => va_Qi post (p_Post D cy A) A) (XC := fun A => p_XC D cy A (fun _ _ => False)) mw_L_stand (Nat.le_of_ble_eq_true rfl) (own := RL) rfl ?_
  intro p e s m below meth c A X hr hlk hnm htab ls hl hH
  have hx := X.1.1
  have hb := X.1.2.1
  replace hl : lv_has ls 4 [(0, .ref a0), (1, .int a1), (2, .int a2)] := hl
  have main : ∀ (H : Heap) (locs : List Loc) (ls : Array Slot) (cells slots bc bs : Nat), f_L_stand S a0 a1 a2 bc bs post → p_H D cy S A s H locs → lv_has ls 4 [(0, .ref a0), (1, .int a1), (2, .int a2)] → cells + bc ≤ mc ∧ slots + bs ≤ ms → W p l e (rm_L_stand mc ms) s m [.ref a0, .int a1, .int a2].toArray below meth c H locs cells slots (vx_MQ below (va_Qi post (p_Post D cy A) A) (p_XC D cy A (fun _ _ => False)) [.ref a0, .int a1, .int a2].toArray s mc ms A) (F0 m 0 ls []) := by
    intro H locs ls cells slots bc bs hf hH hl hB
    refine lv_aload_n hx hb dL_stand_0 rfl (lv_at hl 0 rfl) ?_
    refine lv_iload_n hx hb dL_stand_1 rfl (lv_at hl 1 rfl) ?_
    refine lv_iload_n hx hb dL_stand_2 rfl (lv_at hl 2 rfl) ?_
    obtain ⟨hb1, hb2, mc2, ms2, hm1, hs1, hf⟩ := hf
    refine q_callXi X hH hB hm1 hs1 (q_runVx [.int a1, .int a2] [] X hH hl (c_X7_stand l D cy G X.2.2.2.1 hst hGE S a0 a1 a2 mc2 ms2 _ _ _ hf) mf_X7_stand mv_X7_stand tw_1129 ⟨Nat.le_of_ble_eq_true rfl, Nat.le_of_ble_eq_true rfl⟩ hb1 hb2 (T := TX7) (N := 12) rfl rfl (Nat.le_of_ble_eq_true rfl) dL_stand_3 ⟨Nat.le_trans (Nat.add_le_add_left hm1 _) hB.1, Nat.le_trans (Nat.add_le_add_left hs1 _) hB.2⟩) (fun E4 ce q9 S4 hf H locs cells slots hH hB hc1 hc2 hc3 => ?_) (fun v3 S1 hf H locs cells slots hH hB => ?_)
    · rcases hf with ⟨rfl, hf⟩
      · refine vx_catch X.1.2.2.2.1 [] ⟨0, 6, 7, 23⟩ [] htab (fun z hz => nomatch hz) (by decide) (by decide) (X.1.2.2.2.2 _ tw_984) (va_Nw.use (by decide +kernel) ((hGE _ _ _ X.2.2.2.2).1 _ (List.mem_of_getElem? (i := 3) rfl))) hc1 hc2 hc3 ?_
        refine lv_astore_n (lv' := [(3, .ref q9), (0, .ref a0), (1, .int a1), (2, .int a2)]) hx hb dL_stand_7 rfl hl (by decide) rfl (fun ls hl => ?_)
        refine lv_aload_n hx hb dL_stand_8 rfl (lv_at hl 1 rfl) ?_
        obtain ⟨mc6, ms6, hm1, hs1, hf⟩ := hf
        refine q_backIB X hH hB hm1 hs1 (q_runS [.ref a0] [] X hH hl (c_L_told l D cy G X.2.2.2.1 hst hGE S4 a0 mc6 ms6 _ _ hf) mf_L_told tw_1075 tw_1074 ⟨Nat.le_of_ble_eq_true rfl, Nat.le_of_ble_eq_true rfl⟩ rfl (Nat.le_of_ble_eq_true rfl) dL_stand_9 ⟨Nat.le_trans (Nat.add_le_add_left hm1 _) hB.1, Nat.le_trans (Nat.add_le_add_left hs1 _) hB.2⟩) (fun v7 S5 hf H locs cells slots hH hB => ?_)
        exact vx_ret (q_retI X hH hr hlk hf (Nat.le_trans (Nat.le_add_right _ _) hB.1) (Nat.le_trans (Nat.le_add_right _ _) hB.2) dL_stand_12)
    · exact vx_ret (q_retI X hH hr hlk hf (Nat.le_trans (Nat.le_add_right _ _) hB.1) (Nat.le_trans (Nat.le_add_right _ _) hB.2) dL_stand_6)
  exact main s.heap [] ls 0 0 mc ms hf hH hl ⟨by omega, by omega⟩
-- L_part
def f_L_part (S : PS) (a0 : Nat) (bc bs : Nat) (post : Int32 → PS → Prop) : Prop :=
  isO S a0 11 (
  ∃ mc2 ms2 : Nat, mc2 ≤ bc ∧ ms2 ≤ bs ∧ (f_X7_part S a0 mc2 ms2 (fun v3 S1 => (
    post v3 S1)) (fun E4 S4 => (
  (E4 = "java/lang/UnsupportedOperationException" ∧ (
    ∃ mc6 ms6 : Nat, mc6 ≤ (bc - mc2) ∧ ms6 ≤ (bs - ms2) ∧ (f_L_told S4 a0 mc6 ms6 fun v7 S5 => (
    post v7 S5))))))))
abbrev rm_L_part (mc ms : Nat) : Room := { frames := 8, cells := mc, slots := ms, locals := 176 }
set_option maxHeartbeats 4000000 in
set_option maxRecDepth 100000 in
theorem c_L_part (l : Launch) (D : va_G) (cy : Nat → ClassId) (G : p_GT) (hG : p_ok G) (hst : l.stackTraces = false) (hGE : ∀ (A : Nat → Prop) (U : State) (H : Heap), G A U H → p_Ex A U H) (S : PS) (a0 : Nat) (mc ms : Nat) (post : Int32 → PS → Prop) (sz : Nat) (hf : f_L_part S a0 mc ms post) : p_Xi l D cy G S sz yL_part (Cond.codeWith yL_part cL_part 2 (some .int) [(0, 4, 5, 23)] :: wG) (rm_L_part mc ms) [.ref a0] mc ms post (fun _ _ => False) := by
  refine q_startH hG (Qc := fun A => va_Qi post (p_Post D cy A) A) (XC := fun A => p_XC D cy A (fun _ _ => False)) mw_L_part (Nat.le_of_ble_eq_true rfl) (own := RL) rfl ?_
  intro p e s m below meth c A X hr hlk hnm htab ls hl hH
  have hx := X.1.1
  have hb := X.1.2.1
  replace hl : lv_has ls 2 [(0, .ref a0)] := hl
  have main : ∀ (H : Heap) (locs : List Loc) (ls : Array Slot) (cells slots bc bs : Nat), f_L_part S a0 bc bs post → p_H D cy S A s H locs → lv_has ls 2 [(0, .ref a0)] → cells + bc ≤ mc ∧ slots + bs ≤ ms → W p l e (rm_L_part mc ms) s m [.ref a0].toArray below meth c H locs cells slots (vx_MQ below (va_Qi post (p_Post D cy A) A) (p_XC D cy A (fun _ _ => False)) [.ref a0].toArray s mc ms A) (F0 m 0 ls []) := by
    intro H locs ls cells slots bc bs hf hH hl hB
    refine lv_aload_n hx hb dL_part_0 rfl (lv_at hl 0 rfl) ?_
    obtain ⟨hb1, hb2, mc2, ms2, hm1, hs1, hf⟩ := hf
    refine q_callXi X hH hB hm1 hs1 (q_runVx [] [] X hH hl (c_X7_part l D cy G X.2.2.2.1 hst hGE S a0 mc2 ms2 _ _ _ hf) mf_X7_part mv_X7_part tw_1137 ⟨Nat.le_of_ble_eq_true rfl, Nat.le_of_ble_eq_true rfl⟩ hb1 hb2 (T := TX7) (N := 12) rfl rfl (Nat.le_of_ble_eq_true rfl) dL_part_1 ⟨Nat.le_trans (Nat.add_le_add_left hm1 _) hB.1, Nat.le_trans (Nat.add_le_add_left hs1 _) hB.2⟩) (fun E4 ce q9 S4 hf H locs cells slots hH hB hc1 hc2 hc3 => ?_) (fun v3 S1 hf H locs cells slots hH hB => ?_)
    · rcases hf with ⟨rfl, hf⟩
      · refine vx_catch X.1.2.2.2.1 [] ⟨0, 4, 5, 23⟩ [] htab (fun z hz => nomatch hz) (by decide) (by decide) (X.1.2.2.2.2 _ tw_984) (va_Nw.use (by decide +kernel) ((hGE _ _ _ X.2.2.2.2).1 _ (List.mem_of_getElem? (i := 3) rfl))) hc1 hc2 hc3 ?_
        refine lv_astore_n (lv' := [(1, .ref q9), (0, .ref a0)]) hx hb dL_part_5 rfl hl (by decide) rfl (fun ls hl => ?_)
        refine lv_aload_n hx hb dL_part_6 rfl (lv_at hl 1 rfl) ?_
        obtain ⟨mc6, ms6, hm1, hs1, hf⟩ := hf
        refine q_backIB X hH hB hm1 hs1 (q_runS [.ref a0] [] X hH hl (c_L_told l D cy G X.2.2.2.1 hst hGE S4 a0 mc6 ms6 _ _ hf) mf_L_told tw_1075 tw_1074 ⟨Nat.le_of_ble_eq_true rfl, Nat.le_of_ble_eq_true rfl⟩ rfl (Nat.le_of_ble_eq_true rfl) dL_part_7 ⟨Nat.le_trans (Nat.add_le_add_left hm1 _) hB.1, Nat.le_trans (Nat.add_le_add_left hs1 _) hB.2⟩) (fun v7 S5 hf H locs cells slots hH hB => ?_)
        exact vx_ret (q_retI X hH hr hlk hf (Nat.le_trans (Nat.le_add_right _ _) hB.1) (Nat.le_trans (Nat.le_add_right _ _) hB.2) dL_part_10)
    · exact vx_ret (q_retI X hH hr hlk hf (Nat.le_trans (Nat.le_add_right _ _) hB.1) (Nat.le_trans (Nat.le_add_right _ _) hB.2) dL_part_4)
  exact main s.heap [] ls 0 0 mc ms hf hH hl ⟨by omega, by omega⟩
