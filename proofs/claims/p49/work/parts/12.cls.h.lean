-- X7_tellPhase
def f_X7_tellPhase_J84 (post : Int32 → PS → Prop) (postX : String → PS → Prop) (S : PS) (bc bs : Nat) (l0 : Nat) (l1 : Int32) : Prop :=
  gR S l0 11 9 fun v1 => (
  isO S v1 1 (
  ∃ mc3 ms3 : Nat, mc3 ≤ bc ∧ ms3 ≤ bs ∧ (f_J4_append_cf468 S v1 61 mc3 ms3 fun v4 S2 => (
  gR S2 l0 11 9 fun v5 => (
  gR S2 l0 11 4 fun v6 => (
  isO S2 v6 7 (
  f_X3_cutOf S2 v6 l1 fun v8 S7 => (
  isO S7 v5 1 (
  ∃ mc10 ms10 : Nat, mc10 ≤ (bc - mc3) ∧ ms10 ≤ (bs - ms3) ∧ (f_J4_append_bf812 S7 v5 v8 mc10 ms10 fun v11 S9 => (
  gR S9 l0 11 9 fun v12 => (
  isO S9 v12 1 (
  f_J4_length_8abf5 S9 v12 fun v14 S13 => (
  post v14 S13))))))))))))))
def f_X7_tellPhase_J65 (post : Int32 → PS → Prop) (postX : String → PS → Prop) (g39 : PS → Nat → Nat → Nat → Int32 → Int32 → Prop) (S : PS) (bc bs : Nat) (l0 : Nat) (l1 : Int32) (l2 : Int32) : Prop :=
  gR S l0 11 4 fun v1 => (
  isO S v1 7 (
  f_X3_groupAt S v1 l1 l2 fun v3 S2 => (
  isO S2 l0 11 (
  ∃ mc5 ms5 : Nat, mc5 ≤ bc ∧ ms5 ≤ bs ∧ (f_X7_writeSet S2 l0 v3 mc5 ms5 fun S4 => (
  g39 S4 (bc - mc5) (bs - ms5) l0 l1 (l2 + 1)))))))
def f_X7_tellPhase_L39 (post : Int32 → PS → Prop) (postX : String → PS → Prop) : Nat → PS → Nat → Nat → Nat → Int32 → Int32 → Prop
  | 0, _, _, _, _, _, _ => False
  | n + 1, S, bc, bs, l0, l1, l2 =>
  gR S l0 11 4 fun v1 => (
  isO S v1 7 (
  f_X3_groupsIn S v1 l1 fun v3 S2 => (
  if v3 ≤ l2 then
    f_X7_tellPhase_J84 post postX S2 bc bs l0 l1
  else
    if l2 ≤ 0 then
      f_X7_tellPhase_J65 post postX (f_X7_tellPhase_L39 post postX n) S2 bc bs l0 l1 l2
    else
      gR S2 l0 11 9 fun v6 => (
      isO S2 v6 1 (
      ∃ mc8 ms8 : Nat, mc8 ≤ bc ∧ ms8 ≤ bs ∧ (f_J4_append_cf468 S2 v6 60 mc8 ms8 fun v9 S7 => (
      f_X7_tellPhase_J65 post postX (f_X7_tellPhase_L39 post postX n) S7 (bc - mc8) (bs - ms8) l0 l1 l2)))))))
def f_X7_tellPhase (S : PS) (a0 : Nat) (a1 : Int32) (bc bs : Nat) (post : Int32 → PS → Prop) (postX : String → PS → Prop) : Prop :=
  isO S a0 11 (
  f_X7_hasPhase S a0 a1 fun v2 S1 => (
  if v2 = 0 then
    tX S1 "java/lang/IndexOutOfBoundsException" bc bs postX
  else
    gR S1 a0 11 4 fun v4 => (
    gR S1 a0 11 0 fun v5 => (
    isO S1 v4 7 (
    f_X3_measure S1 v4 v5 fun S6 => (
    gR S6 a0 11 9 fun v8 => (
    isO S6 v8 1 (
    ∃ mc10 ms10 : Nat, mc10 ≤ bc ∧ ms10 ≤ bs ∧ (f_J4_setLength_d00df S6 v8 0 mc10 ms10 fun S9 => (
    f_X7_tellPhase_L39 post postX 4096 S9 (bc - mc10) (bs - ms10) a0 a1 0))))))))))
abbrev rm_X7_tellPhase (mc ms : Nat) : Room := { frames := 7, cells := mc, slots := ms, locals := 170 }
set_option maxHeartbeats 4000000 in
set_option maxRecDepth 100000 in
theorem c_X7_tellPhase (l : Launch) (D : va_G) (cy : Nat → ClassId) (G : p_GT) (hG : p_ok G) (hGC : ∀ (A : Nat → Prop) (U : State) (H : Heap), G A U H → gC A U H) (hst : l.stackTraces = false) (hGE : ∀ (A : Nat → Prop) (U : State) (H : Heap), G A U H → p_Ex A U H) (dT dO : Nat) (hGT : ∀ (A : Nat → Prop) (U : State) (H : Heap), G A U H → gT dT dO A U H) (hGU : ∀ (A : Nat → Prop) (U : State) (H : Heap), G A U H → gU A U H) (S : PS) (a0 : Nat) (a1 : Int32) (mc ms : Nat) (post : Int32 → PS → Prop) (postX : String → PS → Prop) (sz : Nat) (hf : f_X7_tellPhase S a0 a1 mc ms post postX) : p_Xi l D cy G S sz yX7_tellPhase (Cond.code yX7_tellPhase cX7_tellPhase 3 (some .int) :: wG) (rm_X7_tellPhase mc ms) [.ref a0, .int a1] mc ms post postX := by
  refine q_startX hG (Qc := fun A => va_Qi post (p_Post D cy A) A) (XC := fun A => p_XC D cy A postX) mf_X7_tellPhase (Nat.le_of_ble_eq_true rfl) (own := RX7) rfl ?_
  intro p e s m below meth c A X hr hlk hnm htab ls hl hH
  have hx := X.1.1
  have hb := X.1.2.1
  replace hl : lv_has ls 3 [(0, .ref a0), (1, .int a1)] := hl
  have main : ∀ (H : Heap) (locs : List Loc) (ls : Array Slot) (cells slots bc bs : Nat), f_X7_tellPhase S a0 a1 bc bs post postX → p_H D cy S A s H locs → lv_has ls 3 [(0, .ref a0), (1, .int a1)] → cells + bc ≤ mc ∧ slots + bs ≤ ms → W p l e (rm_X7_tellPhase mc ms) s m [.ref a0, .int a1].toArray below meth c H locs cells slots (vx_MQ below (va_Qi post (p_Post D cy A) A) (p_XC D cy A postX) [.ref a0, .int a1].toArray s mc ms A) (F0 m 0 ls []) := by
    intro H locs ls cells slots bc bs hf hH hl hB
    have hL39 : ∀ (n39 : Nat) (S : PS) (bc bs : Nat) (l0 : Nat) (l1 : Int32) (l2 : Int32), f_X7_tellPhase_L39 post postX n39 S bc bs l0 l1 l2 → ∀ (H : Heap) (locs : List Loc) (ls : Array Slot) (cells slots : Nat), p_H D cy S A s H locs → lv_has ls 3 [(0, .ref l0), (1, .int l1), (2, .int l2)] → cells + bc ≤ mc ∧ slots + bs ≤ ms → W p l e (rm_X7_tellPhase mc ms) s m [.ref a0, .int a1].toArray below meth c H locs cells slots (vx_MQ below (va_Qi post (p_Post D cy A) A) (p_XC D cy A postX) [.ref a0, .int a1].toArray s mc ms A) (F0 m 39 ls []) := by
      intro n39
      induction n39 with
      | zero => intro S bc bs l0 l1 l2 hf; exact hf.elim
      | succ n39 ih39 =>
        intro S bc bs l0 l1 l2 hf H locs ls cells slots hH hl hB
        have hJ84 : ∀ (S : PS) (bc bs : Nat) (l0 : Nat) (l1 : Int32), f_X7_tellPhase_J84 post postX S bc bs l0 l1 → ∀ (H : Heap) (locs : List Loc) (ls : Array Slot) (cells slots : Nat), p_H D cy S A s H locs → lv_has ls 3 [(0, .ref l0), (1, .int l1)] → cells + bc ≤ mc ∧ slots + bs ≤ ms → W p l e (rm_X7_tellPhase mc ms) s m [.ref a0, .int a1].toArray below meth c H locs cells slots (vx_MQ below (va_Qi post (p_Post D cy A) A) (p_XC D cy A postX) [.ref a0, .int a1].toArray s mc ms A) (F0 m 84 ls []) := by
          intro S bc bs l0 l1 hf H locs ls cells slots hH hl hB
          refine lv_aload_n hx hb dX7_tellPhase_84 rfl (lv_at hl 0 rfl) ?_
          refine q_getR (T := TX7) (N := 12) X hH hf iw_X7 rfl (by decide) tw_262 (fun _ h => h) dX7_tellPhase_85 (fun v1 hf => ?_)
          refine lv_bipush (v := 61) hx hb dX7_tellPhase_88 (by decide) ?_
          obtain ⟨hb1, hb2, hf⟩ := hf
          obtain ⟨mc3, ms3, hm1, hs1, hf⟩ := hf
          refine q_backRB X hH hB hm1 hs1 (q_runV [.int 61] [] X hH hl (c_J4_append_cf468 l D cy G X.2.2.2.1 hGC hGU S v1 61 mc3 ms3 _ _ hf) mf_J4_append_cf468 mv_J4_append_cf468 tw_734 ⟨Nat.le_of_ble_eq_true rfl, Nat.le_of_ble_eq_true rfl⟩ hb1 hb2 (T := TJ4) (N := 4) rfl rfl (Nat.le_of_ble_eq_true rfl) dX7_tellPhase_90 ⟨Nat.le_trans (Nat.add_le_add_left hm1 _) hB.1, Nat.le_trans (Nat.add_le_add_left hs1 _) hB.2⟩) (fun v4 S2 hf H locs cells slots hH hB => ?_)
          refine lv_pop hx hb dX7_tellPhase_93 rfl ?_
          refine lv_aload_n hx hb dX7_tellPhase_94 rfl (lv_at hl 0 rfl) ?_
          refine q_getR (T := TX7) (N := 12) X hH hf iw_X7 rfl (by decide) tw_262 (fun _ h => h) dX7_tellPhase_95 (fun v5 hf => ?_)
          refine lv_aload_n hx hb dX7_tellPhase_98 rfl (lv_at hl 0 rfl) ?_
          refine q_getR (T := TX7) (N := 12) X hH hf iw_X7 rfl (by decide) tw_257 (fun _ h => h) dX7_tellPhase_99 (fun v6 hf => ?_)
          refine lv_iload_n hx hb dX7_tellPhase_102 rfl (lv_at hl 1 rfl) ?_
          obtain ⟨hb1, hb2, hf⟩ := hf
          refine q_backI0 X hH (q_runV [.int l1] [.ref v5] X hH hl (c_X3_cutOf l D cy G X.2.2.2.1 S2 v6 l1 _ _ hf) mf_X3_cutOf mv_X3_cutOf tw_502 ⟨Nat.le_of_ble_eq_true rfl, Nat.le_of_ble_eq_true rfl⟩ hb1 hb2 (T := TX3) (N := 6) rfl rfl (Nat.le_of_ble_eq_true rfl) dX7_tellPhase_103 ⟨Nat.le_trans (Nat.le_add_right _ _) hB.1, Nat.le_trans (Nat.le_add_right _ _) hB.2⟩) (fun v8 S7 hf H locs hH => ?_)
          obtain ⟨hb1, hb2, hf⟩ := hf
          obtain ⟨mc10, ms10, hm1, hs1, hf⟩ := hf
          refine q_backRB X hH hB hm1 hs1 (q_runV [.int v8] [] X hH hl (c_J4_append_bf812 l D cy G X.2.2.2.1 hGC dT dO hGT hGU S7 v5 v8 mc10 ms10 _ _ hf) mf_J4_append_bf812 mv_J4_append_bf812 tw_789 ⟨Nat.le_of_ble_eq_true rfl, Nat.le_of_ble_eq_true rfl⟩ hb1 hb2 (T := TJ4) (N := 4) rfl rfl (Nat.le_of_ble_eq_true rfl) dX7_tellPhase_106 ⟨Nat.le_trans (Nat.add_le_add_left hm1 _) hB.1, Nat.le_trans (Nat.add_le_add_left hs1 _) hB.2⟩) (fun v11 S9 hf H locs cells slots hH hB => ?_)
          refine lv_pop hx hb dX7_tellPhase_109 rfl ?_
          refine lv_aload_n hx hb dX7_tellPhase_110 rfl (lv_at hl 0 rfl) ?_
          refine q_getR (T := TX7) (N := 12) X hH hf iw_X7 rfl (by decide) tw_262 (fun _ h => h) dX7_tellPhase_111 (fun v12 hf => ?_)
          obtain ⟨hb1, hb2, hf⟩ := hf
          refine q_backI0 X hH (q_runV [] [] X hH hl (c_J4_length_8abf5 l D cy G X.2.2.2.1 S9 v12 _ _ hf) mf_J4_length_8abf5 mv_J4_length_8abf5 tw_727 ⟨Nat.le_of_ble_eq_true rfl, Nat.le_of_ble_eq_true rfl⟩ hb1 hb2 (T := TJ4) (N := 4) rfl rfl (Nat.le_of_ble_eq_true rfl) dX7_tellPhase_114 ⟨Nat.le_trans (Nat.le_add_right _ _) hB.1, Nat.le_trans (Nat.le_add_right _ _) hB.2⟩) (fun v14 S13 hf H locs hH => ?_)
          exact vx_ret (q_retI X hH hr hlk hf (Nat.le_trans (Nat.le_add_right _ _) hB.1) (Nat.le_trans (Nat.le_add_right _ _) hB.2) dX7_tellPhase_117)
        have hJ65 : ∀ (S : PS) (bc bs : Nat) (l0 : Nat) (l1 : Int32) (l2 : Int32), f_X7_tellPhase_J65 post postX (f_X7_tellPhase_L39 post postX n39) S bc bs l0 l1 l2 → ∀ (H : Heap) (locs : List Loc) (ls : Array Slot) (cells slots : Nat), p_H D cy S A s H locs → lv_has ls 3 [(0, .ref l0), (1, .int l1), (2, .int l2)] → cells + bc ≤ mc ∧ slots + bs ≤ ms → W p l e (rm_X7_tellPhase mc ms) s m [.ref a0, .int a1].toArray below meth c H locs cells slots (vx_MQ below (va_Qi post (p_Post D cy A) A) (p_XC D cy A postX) [.ref a0, .int a1].toArray s mc ms A) (F0 m 65 ls []) := by
          intro S bc bs l0 l1 l2 hf H locs ls cells slots hH hl hB
          refine lv_aload_n hx hb dX7_tellPhase_65 rfl (lv_at hl 0 rfl) ?_
          refine lv_aload_n hx hb dX7_tellPhase_66 rfl (lv_at hl 0 rfl) ?_
          refine q_getR (T := TX7) (N := 12) X hH hf iw_X7 rfl (by decide) tw_257 (fun _ h => h) dX7_tellPhase_67 (fun v1 hf => ?_)
          refine lv_iload_n hx hb dX7_tellPhase_70 rfl (lv_at hl 1 rfl) ?_
          refine lv_iload_n hx hb dX7_tellPhase_71 rfl (lv_at hl 2 rfl) ?_
          obtain ⟨hb1, hb2, hf⟩ := hf
          refine q_backI0 X hH (q_runV [.int l1, .int l2] [.ref l0] X hH hl (c_X3_groupAt l D cy G X.2.2.2.1 S v1 l1 l2 _ _ hf) mf_X3_groupAt mv_X3_groupAt tw_510 ⟨Nat.le_of_ble_eq_true rfl, Nat.le_of_ble_eq_true rfl⟩ hb1 hb2 (T := TX3) (N := 6) rfl rfl (Nat.le_of_ble_eq_true rfl) dX7_tellPhase_72 ⟨Nat.le_trans (Nat.le_add_right _ _) hB.1, Nat.le_trans (Nat.le_add_right _ _) hB.2⟩) (fun v3 S2 hf H locs hH => ?_)
          obtain ⟨hb1, hb2, hf⟩ := hf
          obtain ⟨mc5, ms5, hm1, hs1, hf⟩ := hf
          refine q_backVB X hH hB hm1 hs1 (q_runV [.int v3] [] X hH hl (c_X7_writeSet l D cy G X.2.2.2.1 hGC dT dO hGT hGU S2 l0 v3 mc5 ms5 _ _ hf) mf_X7_writeSet mv_X7_writeSet tw_827 ⟨Nat.le_of_ble_eq_true rfl, Nat.le_of_ble_eq_true rfl⟩ hb1 hb2 (T := TX7) (N := 12) rfl rfl (Nat.le_of_ble_eq_true rfl) dX7_tellPhase_75 ⟨Nat.le_trans (Nat.add_le_add_left hm1 _) hB.1, Nat.le_trans (Nat.add_le_add_left hs1 _) hB.2⟩) (fun S4 hf H locs cells slots hH hB => ?_)
          refine lv_iinc (v := l2 + 1) (lv' := [(2, .int (l2 + 1)), (0, .ref l0), (1, .int l1)]) hx hb dX7_tellPhase_78 hl (k := 2) rfl rfl (by decide) rfl (fun ls hl => ?_)
          refine lv_goto (tgt := 39) hx hb dX7_tellPhase_81 (by decide) ?_
          exact ih39 S4 (bc - mc5) (bs - ms5) l0 l1 (l2 + 1) hf H locs ls cells slots hH (lv_sub hl [1, 2, 0] rfl) hB
        refine lv_iload_n hx hb dX7_tellPhase_39 rfl (lv_at hl 2 rfl) ?_
        refine lv_aload_n hx hb dX7_tellPhase_40 rfl (lv_at hl 0 rfl) ?_
        refine q_getR (T := TX7) (N := 12) X hH hf iw_X7 rfl (by decide) tw_257 (fun _ h => h) dX7_tellPhase_41 (fun v1 hf => ?_)
        refine lv_iload_n hx hb dX7_tellPhase_44 rfl (lv_at hl 1 rfl) ?_
        obtain ⟨hb1, hb2, hf⟩ := hf
        refine q_backI0 X hH (q_runV [.int l1] [.int l2] X hH hl (c_X3_groupsIn l D cy G X.2.2.2.1 S v1 l1 _ _ hf) mf_X3_groupsIn mv_X3_groupsIn tw_501 ⟨Nat.le_of_ble_eq_true rfl, Nat.le_of_ble_eq_true rfl⟩ hb1 hb2 (T := TX3) (N := 6) rfl rfl (Nat.le_of_ble_eq_true rfl) dX7_tellPhase_45 ⟨Nat.le_trans (Nat.le_add_right _ _) hB.1, Nat.le_trans (Nat.le_add_right _ _) hB.2⟩) (fun v3 S2 hf H locs hH => ?_)
        refine lv_icmp_ge (tgt := 84) hx hb dX7_tellPhase_48 (by decide) (fun c4 => ?_) (fun c4 => ?_)
        · have hf := (if_pos c4).mp hf
          exact hJ84 S2 bc bs l0 l1 hf H locs ls cells slots hH (lv_sub hl [0, 1] rfl) hB
        · have hf := (if_neg c4).mp hf
          refine lv_iload_n hx hb dX7_tellPhase_51 rfl (lv_at hl 2 rfl) ?_
          refine lv_if_le (tgt := 65) hx hb dX7_tellPhase_52 (by decide) (fun c5 => ?_) (fun c5 => ?_)
          · have hf := (if_pos c5).mp hf
            exact hJ65 S2 bc bs l0 l1 l2 hf H locs ls cells slots hH hl hB
          · have hf := (if_neg c5).mp hf
            refine lv_aload_n hx hb dX7_tellPhase_55 rfl (lv_at hl 0 rfl) ?_
            refine q_getR (T := TX7) (N := 12) X hH hf iw_X7 rfl (by decide) tw_262 (fun _ h => h) dX7_tellPhase_56 (fun v6 hf => ?_)
            refine lv_bipush (v := 60) hx hb dX7_tellPhase_59 (by decide) ?_
            obtain ⟨hb1, hb2, hf⟩ := hf
            obtain ⟨mc8, ms8, hm1, hs1, hf⟩ := hf
            refine q_backRB X hH hB hm1 hs1 (q_runV [.int 60] [] X hH hl (c_J4_append_cf468 l D cy G X.2.2.2.1 hGC hGU S2 v6 60 mc8 ms8 _ _ hf) mf_J4_append_cf468 mv_J4_append_cf468 tw_734 ⟨Nat.le_of_ble_eq_true rfl, Nat.le_of_ble_eq_true rfl⟩ hb1 hb2 (T := TJ4) (N := 4) rfl rfl (Nat.le_of_ble_eq_true rfl) dX7_tellPhase_61 ⟨Nat.le_trans (Nat.add_le_add_left hm1 _) hB.1, Nat.le_trans (Nat.add_le_add_left hs1 _) hB.2⟩) (fun v9 S7 hf H locs cells slots hH hB => ?_)
            refine lv_pop hx hb dX7_tellPhase_64 rfl ?_
            exact hJ65 S7 (bc - mc8) (bs - ms8) l0 l1 l2 hf H locs ls cells slots hH hl hB
    refine lv_aload_n hx hb dX7_tellPhase_0 rfl (lv_at hl 0 rfl) ?_
    refine lv_iload_n hx hb dX7_tellPhase_1 rfl (lv_at hl 1 rfl) ?_
    obtain ⟨hb1, hb2, hf⟩ := hf
    refine q_backI0 X hH (q_runV [.int a1] [] X hH hl (c_X7_hasPhase l D cy G X.2.2.2.1 S a0 a1 _ _ hf) mf_X7_hasPhase mv_X7_hasPhase tw_452 ⟨Nat.le_of_ble_eq_true rfl, Nat.le_of_ble_eq_true rfl⟩ hb1 hb2 (T := TX7) (N := 12) rfl rfl (Nat.le_of_ble_eq_true rfl) dX7_tellPhase_2 ⟨Nat.le_trans (Nat.le_add_right _ _) hB.1, Nat.le_trans (Nat.le_add_right _ _) hB.2⟩) (fun v2 S1 hf H locs hH => ?_)
    refine lv_if_ne (tgt := 18) hx hb dX7_tellPhase_5 (by decide) (fun c3 => ?_) (fun c3 => ?_)
    · have hf := (if_neg c3).mp hf
      refine lv_aload_n hx hb dX7_tellPhase_18 rfl (lv_at hl 0 rfl) ?_
      refine q_getR (T := TX7) (N := 12) X hH hf iw_X7 rfl (by decide) tw_257 (fun _ h => h) dX7_tellPhase_19 (fun v4 hf => ?_)
      refine lv_aload_n hx hb dX7_tellPhase_22 rfl (lv_at hl 0 rfl) ?_
      refine q_getR (T := TX7) (N := 12) X hH hf iw_X7 rfl (by decide) tw_253 (fun _ h => h) dX7_tellPhase_23 (fun v5 hf => ?_)
      obtain ⟨hb1, hb2, hf⟩ := hf
      refine q_backV0 X hH (q_runV [.ref v5] [] X hH hl (c_X3_measure l D cy G X.2.2.2.1 S1 v4 v5 _ _ hf) mf_X3_measure mv_X3_measure tw_457 ⟨Nat.le_of_ble_eq_true rfl, Nat.le_of_ble_eq_true rfl⟩ hb1 hb2 (T := TX3) (N := 6) rfl rfl (Nat.le_of_ble_eq_true rfl) dX7_tellPhase_26 ⟨Nat.le_trans (Nat.le_add_right _ _) hB.1, Nat.le_trans (Nat.le_add_right _ _) hB.2⟩) (fun S6 hf H locs hH => ?_)
      refine lv_aload_n hx hb dX7_tellPhase_29 rfl (lv_at hl 0 rfl) ?_
      refine q_getR (T := TX7) (N := 12) X hH hf iw_X7 rfl (by decide) tw_262 (fun _ h => h) dX7_tellPhase_30 (fun v8 hf => ?_)
      refine lv_iconst (v := 0) hx hb dX7_tellPhase_33 (by decide) ?_
      obtain ⟨hb1, hb2, hf⟩ := hf
      obtain ⟨mc10, ms10, hm1, hs1, hf⟩ := hf
      refine q_backVB X hH hB hm1 hs1 (q_runV [.int 0] [] X hH hl (c_J4_setLength_d00df l D cy G X.2.2.2.1 hGU S6 v8 0 mc10 ms10 _ _ hf) mf_J4_setLength_d00df mv_J4_setLength_d00df tw_666 ⟨Nat.le_of_ble_eq_true rfl, Nat.le_of_ble_eq_true rfl⟩ hb1 hb2 (T := TJ4) (N := 4) rfl rfl (Nat.le_of_ble_eq_true rfl) dX7_tellPhase_34 ⟨Nat.le_trans (Nat.add_le_add_left hm1 _) hB.1, Nat.le_trans (Nat.add_le_add_left hs1 _) hB.2⟩) (fun S9 hf H locs cells slots hH hB => ?_)
      refine lv_iconst (v := 0) hx hb dX7_tellPhase_37 (by decide) ?_
      refine lv_istore_n (lv' := [(2, .int 0), (0, .ref a0), (1, .int a1)]) hx hb dX7_tellPhase_38 rfl hl (by decide) rfl (fun ls hl => ?_)
      exact hL39 4096 S9 (bc - mc10) (bs - ms10) a0 a1 0 hf H locs ls cells slots hH (lv_sub hl [1, 2, 0] rfl) hB
    · have hf := (if_pos c3).mp hf
      exact q_throw X hH hl hB rfl rfl hst (hGE _ _ _ X.2.2.2.2) hf tw_298 tw_52 (text := "there is no such phase") (List.mem_of_getElem? (i := 8) rfl) xa_IndexOutOfBoundsException xg_IndexOutOfBoundsException (by decide +kernel) (by decide +kernel) dX7_tellPhase_8 dX7_tellPhase_11 dX7_tellPhase_12 dX7_tellPhase_14 dX7_tellPhase_17 htab ⟨Nat.le_of_ble_eq_true rfl, Nat.le_of_ble_eq_true rfl⟩ (Nat.le_of_ble_eq_true rfl) hlk
  exact main s.heap [] ls 0 0 mc ms hf hH hl ⟨by omega, by omega⟩
-- X7_tellSides
def f_X7_tellSides (S : PS) (a0 : Nat) (bc bs : Nat) (post : Int32 → PS → Prop) : Prop :=
  gR S a0 11 9 fun v1 => (
  isO S v1 1 (
  ∃ mc3 ms3 : Nat, mc3 ≤ bc ∧ ms3 ≤ bs ∧ (f_J4_setLength_d00df S v1 0 mc3 ms3 fun S2 => (
  gR S2 a0 11 0 fun v5 => (
  isO S2 v5 10 (
  f_X6_everyone S2 v5 fun v7 S6 => (
  gR S6 a0 11 0 fun v8 => (
  gI S6 v8 10 2 fun v9 => (
  isO S6 a0 11 (
  ∃ mc11 ms11 : Nat, mc11 ≤ (bc - mc3) ∧ ms11 ≤ (bs - ms3) ∧ (f_X7_writeSet S6 a0 (v7 &&& (v9 ^^^ (-1))) mc11 ms11 fun S10 => (
  gR S10 a0 11 9 fun v13 => (
  isO S10 v13 1 (
  ∃ mc15 ms15 : Nat, mc15 ≤ ((bc - mc3) - mc11) ∧ ms15 ≤ ((bs - ms3) - ms11) ∧ (f_J4_append_cf468 S10 v13 124 mc15 ms15 fun v16 S14 => (
  gR S14 a0 11 0 fun v17 => (
  gI S14 v17 10 2 fun v18 => (
  isO S14 a0 11 (
  ∃ mc20 ms20 : Nat, mc20 ≤ (((bc - mc3) - mc11) - mc15) ∧ ms20 ≤ (((bs - ms3) - ms11) - ms15) ∧ (f_X7_writeSet S14 a0 v18 mc20 ms20 fun S19 => (
  gR S19 a0 11 9 fun v22 => (
  isO S19 v22 1 (
  f_J4_length_8abf5 S19 v22 fun v24 S23 => (
  post v24 S23))))))))))))))))))))))))
abbrev rm_X7_tellSides (mc ms : Nat) : Room := { frames := 7, cells := mc, slots := ms, locals := 170 }
set_option maxHeartbeats 4000000 in
set_option maxRecDepth 100000 in
theorem c_X7_tellSides (l : Launch) (D : va_G) (cy : Nat → ClassId) (G : p_GT) (hG : p_ok G) (hGC : ∀ (A : Nat → Prop) (U : State) (H : Heap), G A U H → gC A U H) (dT dO : Nat) (hGT : ∀ (A : Nat → Prop) (U : State) (H : Heap), G A U H → gT dT dO A U H) (hGU : ∀ (A : Nat → Prop) (U : State) (H : Heap), G A U H → gU A U H) (S : PS) (a0 : Nat) (mc ms : Nat) (post : Int32 → PS → Prop) (sz : Nat) (hf : f_X7_tellSides S a0 mc ms post) : p_Mi l D cy G S sz yX7_tellSides (Cond.code yX7_tellSides cX7_tellSides 1 (some .int) :: wG) (rm_X7_tellSides mc ms) [.ref a0] mc ms post := by
  refine q_start hG (Qc := fun A => va_Qi post (p_Post D cy A) A) mf_X7_tellSides (Nat.le_of_ble_eq_true rfl) (own := RX7) rfl ?_
  intro p e s m below meth c A X hr hlk hnm ls hl hH
  have hx := X.1.1
  have hb := X.1.2.1
  replace hl : lv_has ls 1 [(0, .ref a0)] := hl
  have main : ∀ (H : Heap) (locs : List Loc) (ls : Array Slot) (cells slots bc bs : Nat), f_X7_tellSides S a0 bc bs post → p_H D cy S A s H locs → lv_has ls 1 [(0, .ref a0)] → cells + bc ≤ mc ∧ slots + bs ≤ ms → W p l e (rm_X7_tellSides mc ms) s m [.ref a0].toArray below meth c H locs cells slots (MQ below (va_Qi post (p_Post D cy A) A) [.ref a0].toArray s mc ms A) (F0 m 0 ls []) := by
    intro H locs ls cells slots bc bs hf hH hl hB
    refine lv_aload_n hx hb dX7_tellSides_0 rfl (lv_at hl 0 rfl) ?_
    refine q_getR (T := TX7) (N := 12) X hH hf iw_X7 rfl (by decide) tw_262 (fun _ h => h) dX7_tellSides_1 (fun v1 hf => ?_)
    refine lv_iconst (v := 0) hx hb dX7_tellSides_4 (by decide) ?_
    obtain ⟨hb1, hb2, hf⟩ := hf
    obtain ⟨mc3, ms3, hm1, hs1, hf⟩ := hf
    refine q_backVB X hH hB hm1 hs1 (q_runV [.int 0] [] X hH hl (c_J4_setLength_d00df l D cy G X.2.2.2.1 hGU S v1 0 mc3 ms3 _ _ hf) mf_J4_setLength_d00df mv_J4_setLength_d00df tw_666 ⟨Nat.le_of_ble_eq_true rfl, Nat.le_of_ble_eq_true rfl⟩ hb1 hb2 (T := TJ4) (N := 4) rfl rfl (Nat.le_of_ble_eq_true rfl) dX7_tellSides_5 ⟨Nat.le_trans (Nat.add_le_add_left hm1 _) hB.1, Nat.le_trans (Nat.add_le_add_left hs1 _) hB.2⟩) (fun S2 hf H locs cells slots hH hB => ?_)
    refine lv_aload_n hx hb dX7_tellSides_8 rfl (lv_at hl 0 rfl) ?_
    refine lv_aload_n hx hb dX7_tellSides_9 rfl (lv_at hl 0 rfl) ?_
    refine q_getR (T := TX7) (N := 12) X hH hf iw_X7 rfl (by decide) tw_253 (fun _ h => h) dX7_tellSides_10 (fun v5 hf => ?_)
    obtain ⟨hb1, hb2, hf⟩ := hf
    refine q_backI0 X hH (q_runV [] [.ref a0] X hH hl (c_X6_everyone l D cy G X.2.2.2.1 S2 v5 _ _ hf) mf_X6_everyone mv_X6_everyone tw_383 ⟨Nat.le_of_ble_eq_true rfl, Nat.le_of_ble_eq_true rfl⟩ hb1 hb2 (T := TX6) (N := 6) rfl rfl (Nat.le_of_ble_eq_true rfl) dX7_tellSides_13 ⟨Nat.le_trans (Nat.le_add_right _ _) hB.1, Nat.le_trans (Nat.le_add_right _ _) hB.2⟩) (fun v7 S6 hf H locs hH => ?_)
    refine lv_aload_n hx hb dX7_tellSides_16 rfl (lv_at hl 0 rfl) ?_
    refine q_getR (T := TX7) (N := 12) X hH hf iw_X7 rfl (by decide) tw_253 (fun _ h => h) dX7_tellSides_17 (fun v8 hf => ?_)
    refine q_getIN (T := TX6) (N := 6) X hH hf iw_X6 rfl (by decide) (List.mem_of_getElem? (i := 1) rfl) (fun _ h => h) dX7_tellSides_20 (fun v9 hf => ?_)
    refine lv_iconst (v := (-1)) hx hb dX7_tellSides_23 (by decide) ?_
    refine lv_ixor hx hb dX7_tellSides_24 ?_
    refine lv_iand hx hb dX7_tellSides_25 ?_
    obtain ⟨hb1, hb2, hf⟩ := hf
    obtain ⟨mc11, ms11, hm1, hs1, hf⟩ := hf
    refine q_backVB X hH hB hm1 hs1 (q_runV [.int (v7 &&& (v9 ^^^ (-1)))] [] X hH hl (c_X7_writeSet l D cy G X.2.2.2.1 hGC dT dO hGT hGU S6 a0 (v7 &&& (v9 ^^^ (-1))) mc11 ms11 _ _ hf) mf_X7_writeSet mv_X7_writeSet tw_827 ⟨Nat.le_of_ble_eq_true rfl, Nat.le_of_ble_eq_true rfl⟩ hb1 hb2 (T := TX7) (N := 12) rfl rfl (Nat.le_of_ble_eq_true rfl) dX7_tellSides_26 ⟨Nat.le_trans (Nat.add_le_add_left hm1 _) hB.1, Nat.le_trans (Nat.add_le_add_left hs1 _) hB.2⟩) (fun S10 hf H locs cells slots hH hB => ?_)
    refine lv_aload_n hx hb dX7_tellSides_29 rfl (lv_at hl 0 rfl) ?_
    refine q_getR (T := TX7) (N := 12) X hH hf iw_X7 rfl (by decide) tw_262 (fun _ h => h) dX7_tellSides_30 (fun v13 hf => ?_)
    refine lv_bipush (v := 124) hx hb dX7_tellSides_33 (by decide) ?_
    obtain ⟨hb1, hb2, hf⟩ := hf
    obtain ⟨mc15, ms15, hm1, hs1, hf⟩ := hf
    refine q_backRB X hH hB hm1 hs1 (q_runV [.int 124] [] X hH hl (c_J4_append_cf468 l D cy G X.2.2.2.1 hGC hGU S10 v13 124 mc15 ms15 _ _ hf) mf_J4_append_cf468 mv_J4_append_cf468 tw_734 ⟨Nat.le_of_ble_eq_true rfl, Nat.le_of_ble_eq_true rfl⟩ hb1 hb2 (T := TJ4) (N := 4) rfl rfl (Nat.le_of_ble_eq_true rfl) dX7_tellSides_35 ⟨Nat.le_trans (Nat.add_le_add_left hm1 _) hB.1, Nat.le_trans (Nat.add_le_add_left hs1 _) hB.2⟩) (fun v16 S14 hf H locs cells slots hH hB => ?_)
    refine lv_pop hx hb dX7_tellSides_38 rfl ?_
    refine lv_aload_n hx hb dX7_tellSides_39 rfl (lv_at hl 0 rfl) ?_
    refine lv_aload_n hx hb dX7_tellSides_40 rfl (lv_at hl 0 rfl) ?_
    refine q_getR (T := TX7) (N := 12) X hH hf iw_X7 rfl (by decide) tw_253 (fun _ h => h) dX7_tellSides_41 (fun v17 hf => ?_)
    refine q_getIN (T := TX6) (N := 6) X hH hf iw_X6 rfl (by decide) (List.mem_of_getElem? (i := 1) rfl) (fun _ h => h) dX7_tellSides_44 (fun v18 hf => ?_)
    obtain ⟨hb1, hb2, hf⟩ := hf
    obtain ⟨mc20, ms20, hm1, hs1, hf⟩ := hf
    refine q_backVB X hH hB hm1 hs1 (q_runV [.int v18] [] X hH hl (c_X7_writeSet l D cy G X.2.2.2.1 hGC dT dO hGT hGU S14 a0 v18 mc20 ms20 _ _ hf) mf_X7_writeSet mv_X7_writeSet tw_827 ⟨Nat.le_of_ble_eq_true rfl, Nat.le_of_ble_eq_true rfl⟩ hb1 hb2 (T := TX7) (N := 12) rfl rfl (Nat.le_of_ble_eq_true rfl) dX7_tellSides_47 ⟨Nat.le_trans (Nat.add_le_add_left hm1 _) hB.1, Nat.le_trans (Nat.add_le_add_left hs1 _) hB.2⟩) (fun S19 hf H locs cells slots hH hB => ?_)
    refine lv_aload_n hx hb dX7_tellSides_50 rfl (lv_at hl 0 rfl) ?_
    refine q_getR (T := TX7) (N := 12) X hH hf iw_X7 rfl (by decide) tw_262 (fun _ h => h) dX7_tellSides_51 (fun v22 hf => ?_)
    obtain ⟨hb1, hb2, hf⟩ := hf
    refine q_backI0 X hH (q_runV [] [] X hH hl (c_J4_length_8abf5 l D cy G X.2.2.2.1 S19 v22 _ _ hf) mf_J4_length_8abf5 mv_J4_length_8abf5 tw_727 ⟨Nat.le_of_ble_eq_true rfl, Nat.le_of_ble_eq_true rfl⟩ hb1 hb2 (T := TJ4) (N := 4) rfl rfl (Nat.le_of_ble_eq_true rfl) dX7_tellSides_54 ⟨Nat.le_trans (Nat.le_add_right _ _) hB.1, Nat.le_trans (Nat.le_add_right _ _) hB.2⟩) (fun v24 S23 hf H locs hH => ?_)
    exact q_retI X hH hr hlk hf (Nat.le_trans (Nat.le_add_right _ _) hB.1) (Nat.le_trans (Nat.le_add_right _ _) hB.2) dX7_tellSides_57
  exact main s.heap [] ls 0 0 mc ms hf hH hl ⟨by omega, by omega⟩
-- X7_changed
def f_X7_changed (S : PS) (a0 : Nat) (a1 : Int32) (a2 : Int32) (a3 : Int32) (a4 : Int32) (bc bs : Nat) (post : Int32 → PS → Prop) : Prop :=
  gR S a0 11 3 fun v1 => (
  gR S a0 11 0 fun v2 => (
  isO S v1 6 (
  ∃ mc4 ms4 : Nat, mc4 ≤ bc ∧ ms4 ≤ bs ∧ (f_X2_keep S v1 v2 mc4 ms4 fun S3 => (
  isO S3 a0 11 (
  f_X7_done S3 a0 a1 a2 a3 a4 fun v7 S6 => (
  post v7 S6)))))))
abbrev rm_X7_changed (mc ms : Nat) : Room := { frames := 6, cells := mc, slots := ms, locals := 132 }
set_option maxHeartbeats 4000000 in
set_option maxRecDepth 100000 in
theorem c_X7_changed (l : Launch) (D : va_G) (cy : Nat → ClassId) (G : p_GT) (hG : p_ok G) (S : PS) (a0 : Nat) (a1 : Int32) (a2 : Int32) (a3 : Int32) (a4 : Int32) (mc ms : Nat) (post : Int32 → PS → Prop) (sz : Nat) (hf : f_X7_changed S a0 a1 a2 a3 a4 mc ms post) : p_Mi l D cy G S sz yX7_changed (Cond.code yX7_changed cX7_changed 5 (some .int) :: wG) (rm_X7_changed mc ms) [.ref a0, .int a1, .int a2, .int a3, .int a4] mc ms post := by
  refine q_start hG (Qc := fun A => va_Qi post (p_Post D cy A) A) mf_X7_changed (Nat.le_of_ble_eq_true rfl) (own := RX7) rfl ?_
  intro p e s m below meth c A X hr hlk hnm ls hl hH
  have hx := X.1.1
  have hb := X.1.2.1
  replace hl : lv_has ls 5 [(0, .ref a0), (1, .int a1), (2, .int a2), (3, .int a3), (4, .int a4)] := hl
  have main : ∀ (H : Heap) (locs : List Loc) (ls : Array Slot) (cells slots bc bs : Nat), f_X7_changed S a0 a1 a2 a3 a4 bc bs post → p_H D cy S A s H locs → lv_has ls 5 [(0, .ref a0), (1, .int a1), (2, .int a2), (3, .int a3), (4, .int a4)] → cells + bc ≤ mc ∧ slots + bs ≤ ms → W p l e (rm_X7_changed mc ms) s m [.ref a0, .int a1, .int a2, .int a3, .int a4].toArray below meth c H locs cells slots (MQ below (va_Qi post (p_Post D cy A) A) [.ref a0, .int a1, .int a2, .int a3, .int a4].toArray s mc ms A) (F0 m 0 ls []) := by
    intro H locs ls cells slots bc bs hf hH hl hB
    refine lv_aload_n hx hb dX7_changed_0 rfl (lv_at hl 0 rfl) ?_
    refine q_getR (T := TX7) (N := 12) X hH hf iw_X7 rfl (by decide) tw_256 (fun _ h => h) dX7_changed_1 (fun v1 hf => ?_)
    refine lv_aload_n hx hb dX7_changed_4 rfl (lv_at hl 0 rfl) ?_
    refine q_getR (T := TX7) (N := 12) X hH hf iw_X7 rfl (by decide) tw_253 (fun _ h => h) dX7_changed_5 (fun v2 hf => ?_)
    obtain ⟨hb1, hb2, hf⟩ := hf
    obtain ⟨mc4, ms4, hm1, hs1, hf⟩ := hf
    refine q_backVB X hH hB hm1 hs1 (q_runV [.ref v2] [] X hH hl (c_X2_keep l D cy G X.2.2.2.1 S v1 v2 mc4 ms4 _ _ hf) mf_X2_keep mv_X2_keep tw_1029 ⟨Nat.le_of_ble_eq_true rfl, Nat.le_of_ble_eq_true rfl⟩ hb1 hb2 (T := TX2) (N := 3) rfl rfl (Nat.le_of_ble_eq_true rfl) dX7_changed_8 ⟨Nat.le_trans (Nat.add_le_add_left hm1 _) hB.1, Nat.le_trans (Nat.add_le_add_left hs1 _) hB.2⟩) (fun S3 hf H locs cells slots hH hB => ?_)
    refine lv_aload_n hx hb dX7_changed_11 rfl (lv_at hl 0 rfl) ?_
    refine lv_iload_n hx hb dX7_changed_12 rfl (lv_at hl 1 rfl) ?_
    refine lv_iload_n hx hb dX7_changed_13 rfl (lv_at hl 2 rfl) ?_
    refine lv_iload_n hx hb dX7_changed_14 rfl (lv_at hl 3 rfl) ?_
    refine lv_iload hx hb dX7_changed_15 (lv_at hl 4 rfl) ?_
    obtain ⟨hb1, hb2, hf⟩ := hf
    refine q_backI0 X hH (q_runV [.int a1, .int a2, .int a3, .int a4] [] X hH hl (c_X7_done l D cy G X.2.2.2.1 S3 a0 a1 a2 a3 a4 _ _ hf) mf_X7_done mv_X7_done tw_1040 ⟨Nat.le_of_ble_eq_true rfl, Nat.le_of_ble_eq_true rfl⟩ hb1 hb2 (T := TX7) (N := 12) rfl rfl (Nat.le_of_ble_eq_true rfl) dX7_changed_17 ⟨Nat.le_trans (Nat.le_add_right _ _) hB.1, Nat.le_trans (Nat.le_add_right _ _) hB.2⟩) (fun v7 S6 hf H locs hH => ?_)
    exact q_retI X hH hr hlk hf (Nat.le_trans (Nat.le_add_right _ _) hB.1) (Nat.le_trans (Nat.le_add_right _ _) hB.2) dX7_changed_20
  exact main s.heap [] ls 0 0 mc ms hf hH hl ⟨by omega, by omega⟩
-- X7_household
def f_X7_household (S : PS) (a0 : Nat) (bc bs : Nat) (post : Int32 → PS → Prop) (postX : String → PS → Prop) : Prop :=
  isO S a0 11 (
  f_X7_refuses S a0 0 0 0 0 fun v2 S1 => (
  if v2 = 0 then
    isO S1 a0 11 (
    ∃ mc5 ms5 : Nat, mc5 ≤ bc ∧ ms5 ≤ bs ∧ (f_X7_changed S1 a0 0 0 0 0 mc5 ms5 fun v6 S4 => (
    post v6 S4)))
  else
    tX S1 "java/lang/UnsupportedOperationException" bc bs postX))
abbrev rm_X7_household (mc ms : Nat) : Room := { frames := 7, cells := mc, slots := ms, locals := 156 }
set_option maxHeartbeats 4000000 in
set_option maxRecDepth 100000 in
theorem c_X7_household (l : Launch) (D : va_G) (cy : Nat → ClassId) (G : p_GT) (hG : p_ok G) (hst : l.stackTraces = false) (hGE : ∀ (A : Nat → Prop) (U : State) (H : Heap), G A U H → p_Ex A U H) (S : PS) (a0 : Nat) (mc ms : Nat) (post : Int32 → PS → Prop) (postX : String → PS → Prop) (sz : Nat) (hf : f_X7_household S a0 mc ms post postX) : p_Xi l D cy G S sz yX7_household (Cond.code yX7_household cX7_household 1 (some .int) :: wG) (rm_X7_household mc ms) [.ref a0] mc ms post postX := by
  refine q_startX hG (Qc := fun A => va_Qi post (p_Post D cy A) A) (XC := fun A => p_XC D cy A postX) mf_X7_household (Nat.le_of_ble_eq_true rfl) (own := RX7) rfl ?_
  intro p e s m below meth c A X hr hlk hnm htab ls hl hH
  have hx := X.1.1
  have hb := X.1.2.1
  replace hl : lv_has ls 1 [(0, .ref a0)] := hl
  have main : ∀ (H : Heap) (locs : List Loc) (ls : Array Slot) (cells slots bc bs : Nat), f_X7_household S a0 bc bs post postX → p_H D cy S A s H locs → lv_has ls 1 [(0, .ref a0)] → cells + bc ≤ mc ∧ slots + bs ≤ ms → W p l e (rm_X7_household mc ms) s m [.ref a0].toArray below meth c H locs cells slots (vx_MQ below (va_Qi post (p_Post D cy A) A) (p_XC D cy A postX) [.ref a0].toArray s mc ms A) (F0 m 0 ls []) := by
    intro H locs ls cells slots bc bs hf hH hl hB
    refine lv_aload_n hx hb dX7_household_0 rfl (lv_at hl 0 rfl) ?_
    refine lv_iconst (v := 0) hx hb dX7_household_1 (by decide) ?_
    refine lv_iconst (v := 0) hx hb dX7_household_2 (by decide) ?_
    refine lv_iconst (v := 0) hx hb dX7_household_3 (by decide) ?_
    refine lv_iconst (v := 0) hx hb dX7_household_4 (by decide) ?_
    obtain ⟨hb1, hb2, hf⟩ := hf
    refine q_backI0 X hH (q_runV [.int 0, .int 0, .int 0, .int 0] [] X hH hl (c_X7_refuses l D cy G X.2.2.2.1 S a0 0 0 0 0 _ _ hf) mf_X7_refuses mv_X7_refuses tw_989 ⟨Nat.le_of_ble_eq_true rfl, Nat.le_of_ble_eq_true rfl⟩ hb1 hb2 (T := TX7) (N := 12) rfl rfl (Nat.le_of_ble_eq_true rfl) dX7_household_5 ⟨Nat.le_trans (Nat.le_add_right _ _) hB.1, Nat.le_trans (Nat.le_add_right _ _) hB.2⟩) (fun v2 S1 hf H locs hH => ?_)
    refine lv_if_eq (tgt := 21) hx hb dX7_household_8 (by decide) (fun c3 => ?_) (fun c3 => ?_)
    · have hf := (if_pos c3).mp hf
      refine lv_aload_n hx hb dX7_household_21 rfl (lv_at hl 0 rfl) ?_
      refine lv_iconst (v := 0) hx hb dX7_household_22 (by decide) ?_
      refine lv_iconst (v := 0) hx hb dX7_household_23 (by decide) ?_
      refine lv_iconst (v := 0) hx hb dX7_household_24 (by decide) ?_
      refine lv_iconst (v := 0) hx hb dX7_household_25 (by decide) ?_
      obtain ⟨hb1, hb2, hf⟩ := hf
      obtain ⟨mc5, ms5, hm1, hs1, hf⟩ := hf
      refine q_backIB X hH hB hm1 hs1 (q_runV [.int 0, .int 0, .int 0, .int 0] [] X hH hl (c_X7_changed l D cy G X.2.2.2.1 S1 a0 0 0 0 0 mc5 ms5 _ _ hf) mf_X7_changed mv_X7_changed tw_1025 ⟨Nat.le_of_ble_eq_true rfl, Nat.le_of_ble_eq_true rfl⟩ hb1 hb2 (T := TX7) (N := 12) rfl rfl (Nat.le_of_ble_eq_true rfl) dX7_household_26 ⟨Nat.le_trans (Nat.add_le_add_left hm1 _) hB.1, Nat.le_trans (Nat.add_le_add_left hs1 _) hB.2⟩) (fun v6 S4 hf H locs cells slots hH hB => ?_)
      exact vx_ret (q_retI X hH hr hlk hf (Nat.le_trans (Nat.le_add_right _ _) hB.1) (Nat.le_trans (Nat.le_add_right _ _) hB.2) dX7_household_29)
    · have hf := (if_neg c3).mp hf
      exact q_throw X hH hl hB rfl rfl hst (hGE _ _ _ X.2.2.2.2) hf tw_1009 tw_45 (text := "the village is full") (List.mem_of_getElem? (i := 0) rfl) xa_UnsupportedOperationException xg_UnsupportedOperationException (by decide +kernel) (by decide +kernel) dX7_household_11 dX7_household_14 dX7_household_15 dX7_household_17 dX7_household_20 htab ⟨Nat.le_of_ble_eq_true rfl, Nat.le_of_ble_eq_true rfl⟩ (Nat.le_of_ble_eq_true rfl) hlk
  exact main s.heap [] ls 0 0 mc ms hf hH hl ⟨by omega, by omega⟩
-- X7_leave
def f_X7_leave (S : PS) (a0 : Nat) (a1 : Int32) (bc bs : Nat) (post : Int32 → PS → Prop) (postX : String → PS → Prop) : Prop :=
  isO S a0 11 (
  f_X7_refuses S a0 1 a1 0 0 fun v2 S1 => (
  if v2 = 0 then
    isO S1 a0 11 (
    ∃ mc5 ms5 : Nat, mc5 ≤ bc ∧ ms5 ≤ bs ∧ (f_X7_changed S1 a0 1 a1 0 0 mc5 ms5 fun v6 S4 => (
    post v6 S4)))
  else
    tX S1 "java/lang/UnsupportedOperationException" bc bs postX))
abbrev rm_X7_leave (mc ms : Nat) : Room := { frames := 7, cells := mc, slots := ms, locals := 156 }
set_option maxHeartbeats 4000000 in
set_option maxRecDepth 100000 in
theorem c_X7_leave (l : Launch) (D : va_G) (cy : Nat → ClassId) (G : p_GT) (hG : p_ok G) (hst : l.stackTraces = false) (hGE : ∀ (A : Nat → Prop) (U : State) (H : Heap), G A U H → p_Ex A U H) (S : PS) (a0 : Nat) (a1 : Int32) (mc ms : Nat) (post : Int32 → PS → Prop) (postX : String → PS → Prop) (sz : Nat) (hf : f_X7_leave S a0 a1 mc ms post postX) : p_Xi l D cy G S sz yX7_leave (Cond.code yX7_leave cX7_leave 2 (some .int) :: wG) (rm_X7_leave mc ms) [.ref a0, .int a1] mc ms post postX := by
  refine q_startX hG (Qc := fun A => va_Qi post (p_Post D cy A) A) (XC := fun A => p_XC D cy A postX) mf_X7_leave (Nat.le_of_ble_eq_true rfl) (own := RX7) rfl ?_
  intro p e s m below meth c A X hr hlk hnm htab ls hl hH
  have hx := X.1.1
  have hb := X.1.2.1
  replace hl : lv_has ls 2 [(0, .ref a0), (1, .int a1)] := hl
  have main : ∀ (H : Heap) (locs : List Loc) (ls : Array Slot) (cells slots bc bs : Nat), f_X7_leave S a0 a1 bc bs post postX → p_H D cy S A s H locs → lv_has ls 2 [(0, .ref a0), (1, .int a1)] → cells + bc ≤ mc ∧ slots + bs ≤ ms → W p l e (rm_X7_leave mc ms) s m [.ref a0, .int a1].toArray below meth c H locs cells slots (vx_MQ below (va_Qi post (p_Post D cy A) A) (p_XC D cy A postX) [.ref a0, .int a1].toArray s mc ms A) (F0 m 0 ls []) := by
    intro H locs ls cells slots bc bs hf hH hl hB
    refine lv_aload_n hx hb dX7_leave_0 rfl (lv_at hl 0 rfl) ?_
    refine lv_iconst (v := 1) hx hb dX7_leave_1 (by decide) ?_
    refine lv_iload_n hx hb dX7_leave_2 rfl (lv_at hl 1 rfl) ?_
    refine lv_iconst (v := 0) hx hb dX7_leave_3 (by decide) ?_
    refine lv_iconst (v := 0) hx hb dX7_leave_4 (by decide) ?_
    obtain ⟨hb1, hb2, hf⟩ := hf
    refine q_backI0 X hH (q_runV [.int 1, .int a1, .int 0, .int 0] [] X hH hl (c_X7_refuses l D cy G X.2.2.2.1 S a0 1 a1 0 0 _ _ hf) mf_X7_refuses mv_X7_refuses tw_989 ⟨Nat.le_of_ble_eq_true rfl, Nat.le_of_ble_eq_true rfl⟩ hb1 hb2 (T := TX7) (N := 12) rfl rfl (Nat.le_of_ble_eq_true rfl) dX7_leave_5 ⟨Nat.le_trans (Nat.le_add_right _ _) hB.1, Nat.le_trans (Nat.le_add_right _ _) hB.2⟩) (fun v2 S1 hf H locs hH => ?_)
    refine lv_if_eq (tgt := 21) hx hb dX7_leave_8 (by decide) (fun c3 => ?_) (fun c3 => ?_)
    · have hf := (if_pos c3).mp hf
      refine lv_aload_n hx hb dX7_leave_21 rfl (lv_at hl 0 rfl) ?_
      refine lv_iconst (v := 1) hx hb dX7_leave_22 (by decide) ?_
      refine lv_iload_n hx hb dX7_leave_23 rfl (lv_at hl 1 rfl) ?_
      refine lv_iconst (v := 0) hx hb dX7_leave_24 (by decide) ?_
      refine lv_iconst (v := 0) hx hb dX7_leave_25 (by decide) ?_
      obtain ⟨hb1, hb2, hf⟩ := hf
      obtain ⟨mc5, ms5, hm1, hs1, hf⟩ := hf
      refine q_backIB X hH hB hm1 hs1 (q_runV [.int 1, .int a1, .int 0, .int 0] [] X hH hl (c_X7_changed l D cy G X.2.2.2.1 S1 a0 1 a1 0 0 mc5 ms5 _ _ hf) mf_X7_changed mv_X7_changed tw_1025 ⟨Nat.le_of_ble_eq_true rfl, Nat.le_of_ble_eq_true rfl⟩ hb1 hb2 (T := TX7) (N := 12) rfl rfl (Nat.le_of_ble_eq_true rfl) dX7_leave_26 ⟨Nat.le_trans (Nat.add_le_add_left hm1 _) hB.1, Nat.le_trans (Nat.add_le_add_left hs1 _) hB.2⟩) (fun v6 S4 hf H locs cells slots hH hB => ?_)
      exact vx_ret (q_retI X hH hr hlk hf (Nat.le_trans (Nat.le_add_right _ _) hB.1) (Nat.le_trans (Nat.le_add_right _ _) hB.2) dX7_leave_29)
    · have hf := (if_neg c3).mp hf
      exact q_throw X hH hl hB rfl rfl hst (hGE _ _ _ X.2.2.2.2) hf tw_1009 tw_45 (text := "there is no such household") (List.mem_of_getElem? (i := 1) rfl) xa_UnsupportedOperationException xg_UnsupportedOperationException (by decide +kernel) (by decide +kernel) dX7_leave_11 dX7_leave_14 dX7_leave_15 dX7_leave_17 dX7_leave_20 htab ⟨Nat.le_of_ble_eq_true rfl, Nat.le_of_ble_eq_true rfl⟩ (Nat.le_of_ble_eq_true rfl) hlk
  exact main s.heap [] ls 0 0 mc ms hf hH hl ⟨by omega, by omega⟩
-- X7_bond
def f_X7_bond (S : PS) (a0 : Nat) (a1 : Int32) (a2 : Int32) (a3 : Int32) (bc bs : Nat) (post : Int32 → PS → Prop) (postX : String → PS → Prop) : Prop :=
  isO S a0 11 (
  f_X7_refuses S a0 2 a1 a2 a3 fun v2 S1 => (
  if v2 = 0 then
    isO S1 a0 11 (
    ∃ mc5 ms5 : Nat, mc5 ≤ bc ∧ ms5 ≤ bs ∧ (f_X7_changed S1 a0 2 a1 a2 a3 mc5 ms5 fun v6 S4 => (
    post v6 S4)))
  else
    tX S1 "java/lang/UnsupportedOperationException" bc bs postX))
abbrev rm_X7_bond (mc ms : Nat) : Room := { frames := 7, cells := mc, slots := ms, locals := 156 }
set_option maxHeartbeats 4000000 in
set_option maxRecDepth 100000 in
theorem c_X7_bond (l : Launch) (D : va_G) (cy : Nat → ClassId) (G : p_GT) (hG : p_ok G) (hst : l.stackTraces = false) (hGE : ∀ (A : Nat → Prop) (U : State) (H : Heap), G A U H → p_Ex A U H) (S : PS) (a0 : Nat) (a1 : Int32) (a2 : Int32) (a3 : Int32) (mc ms : Nat) (post : Int32 → PS → Prop) (postX : String → PS → Prop) (sz : Nat) (hf : f_X7_bond S a0 a1 a2 a3 mc ms post postX) : p_Xi l D cy G S sz yX7_bond (Cond.code yX7_bond cX7_bond 4 (some .int) :: wG) (rm_X7_bond mc ms) [.ref a0, .int a1, .int a2, .int a3] mc ms post postX := by
  refine q_startX hG (Qc := fun A => va_Qi post (p_Post D cy A) A) (XC := fun A => p_XC D cy A postX) mf_X7_bond (Nat.le_of_ble_eq_true rfl) (own := RX7) rfl ?_
  intro p e s m below meth c A X hr hlk hnm htab ls hl hH
  have hx := X.1.1
  have hb := X.1.2.1
  replace hl : lv_has ls 4 [(0, .ref a0), (1, .int a1), (2, .int a2), (3, .int a3)] := hl
  have main : ∀ (H : Heap) (locs : List Loc) (ls : Array Slot) (cells slots bc bs : Nat), f_X7_bond S a0 a1 a2 a3 bc bs post postX → p_H D cy S A s H locs → lv_has ls 4 [(0, .ref a0), (1, .int a1), (2, .int a2), (3, .int a3)] → cells + bc ≤ mc ∧ slots + bs ≤ ms → W p l e (rm_X7_bond mc ms) s m [.ref a0, .int a1, .int a2, .int a3].toArray below meth c H locs cells slots (vx_MQ below (va_Qi post (p_Post D cy A) A) (p_XC D cy A postX) [.ref a0, .int a1, .int a2, .int a3].toArray s mc ms A) (F0 m 0 ls []) := by
    intro H locs ls cells slots bc bs hf hH hl hB
    refine lv_aload_n hx hb dX7_bond_0 rfl (lv_at hl 0 rfl) ?_
    refine lv_iconst (v := 2) hx hb dX7_bond_1 (by decide) ?_
    refine lv_iload_n hx hb dX7_bond_2 rfl (lv_at hl 1 rfl) ?_
    refine lv_iload_n hx hb dX7_bond_3 rfl (lv_at hl 2 rfl) ?_
    refine lv_iload_n hx hb dX7_bond_4 rfl (lv_at hl 3 rfl) ?_
    obtain ⟨hb1, hb2, hf⟩ := hf
    refine q_backI0 X hH (q_runV [.int 2, .int a1, .int a2, .int a3] [] X hH hl (c_X7_refuses l D cy G X.2.2.2.1 S a0 2 a1 a2 a3 _ _ hf) mf_X7_refuses mv_X7_refuses tw_989 ⟨Nat.le_of_ble_eq_true rfl, Nat.le_of_ble_eq_true rfl⟩ hb1 hb2 (T := TX7) (N := 12) rfl rfl (Nat.le_of_ble_eq_true rfl) dX7_bond_5 ⟨Nat.le_trans (Nat.le_add_right _ _) hB.1, Nat.le_trans (Nat.le_add_right _ _) hB.2⟩) (fun v2 S1 hf H locs hH => ?_)
    refine lv_if_eq (tgt := 21) hx hb dX7_bond_8 (by decide) (fun c3 => ?_) (fun c3 => ?_)
    · have hf := (if_pos c3).mp hf
      refine lv_aload_n hx hb dX7_bond_21 rfl (lv_at hl 0 rfl) ?_
      refine lv_iconst (v := 2) hx hb dX7_bond_22 (by decide) ?_
      refine lv_iload_n hx hb dX7_bond_23 rfl (lv_at hl 1 rfl) ?_
      refine lv_iload_n hx hb dX7_bond_24 rfl (lv_at hl 2 rfl) ?_
      refine lv_iload_n hx hb dX7_bond_25 rfl (lv_at hl 3 rfl) ?_
      obtain ⟨hb1, hb2, hf⟩ := hf
      obtain ⟨mc5, ms5, hm1, hs1, hf⟩ := hf
      refine q_backIB X hH hB hm1 hs1 (q_runV [.int 2, .int a1, .int a2, .int a3] [] X hH hl (c_X7_changed l D cy G X.2.2.2.1 S1 a0 2 a1 a2 a3 mc5 ms5 _ _ hf) mf_X7_changed mv_X7_changed tw_1025 ⟨Nat.le_of_ble_eq_true rfl, Nat.le_of_ble_eq_true rfl⟩ hb1 hb2 (T := TX7) (N := 12) rfl rfl (Nat.le_of_ble_eq_true rfl) dX7_bond_26 ⟨Nat.le_trans (Nat.add_le_add_left hm1 _) hB.1, Nat.le_trans (Nat.add_le_add_left hs1 _) hB.2⟩) (fun v6 S4 hf H locs cells slots hH hB => ?_)
      exact vx_ret (q_retI X hH hr hlk hf (Nat.le_trans (Nat.le_add_right _ _) hB.1) (Nat.le_trans (Nat.le_add_right _ _) hB.2) dX7_bond_29)
    · have hf := (if_neg c3).mp hf
      exact q_throw X hH hl hB rfl rfl hst (hGE _ _ _ X.2.2.2.2) hf tw_1009 tw_45 (text := "the bond is refused") (List.mem_of_getElem? (i := 2) rfl) xa_UnsupportedOperationException xg_UnsupportedOperationException (by decide +kernel) (by decide +kernel) dX7_bond_11 dX7_bond_14 dX7_bond_15 dX7_bond_17 dX7_bond_20 htab ⟨Nat.le_of_ble_eq_true rfl, Nat.le_of_ble_eq_true rfl⟩ (Nat.le_of_ble_eq_true rfl) hlk
  exact main s.heap [] ls 0 0 mc ms hf hH hl ⟨by omega, by omega⟩
-- X7_loosen
def f_X7_loosen (S : PS) (a0 : Nat) (a1 : Int32) (a2 : Int32) (bc bs : Nat) (post : Int32 → PS → Prop) (postX : String → PS → Prop) : Prop :=
  isO S a0 11 (
  f_X7_refuses S a0 3 a1 a2 0 fun v2 S1 => (
  if v2 = 0 then
    isO S1 a0 11 (
    ∃ mc5 ms5 : Nat, mc5 ≤ bc ∧ ms5 ≤ bs ∧ (f_X7_changed S1 a0 3 a1 a2 0 mc5 ms5 fun v6 S4 => (
    post v6 S4)))
  else
    tX S1 "java/lang/UnsupportedOperationException" bc bs postX))
abbrev rm_X7_loosen (mc ms : Nat) : Room := { frames := 7, cells := mc, slots := ms, locals := 156 }
set_option maxHeartbeats 4000000 in
set_option maxRecDepth 100000 in
theorem c_X7_loosen (l : Launch) (D : va_G) (cy : Nat → ClassId) (G : p_GT) (hG : p_ok G) (hst : l.stackTraces = false) (hGE : ∀ (A : Nat → Prop) (U : State) (H : Heap), G A U H → p_Ex A U H) (S : PS) (a0 : Nat) (a1 : Int32) (a2 : Int32) (mc ms : Nat) (post : Int32 → PS → Prop) (postX : String → PS → Prop) (sz : Nat) (hf : f_X7_loosen S a0 a1 a2 mc ms post postX) : p_Xi l D cy G S sz yX7_loosen (Cond.code yX7_loosen cX7_loosen 3 (some .int) :: wG) (rm_X7_loosen mc ms) [.ref a0, .int a1, .int a2] mc ms post postX := by
  refine q_startX hG (Qc := fun A => va_Qi post (p_Post D cy A) A) (XC := fun A => p_XC D cy A postX) mf_X7_loosen (Nat.le_of_ble_eq_true rfl) (own := RX7) rfl ?_
  intro p e s m below meth c A X hr hlk hnm htab ls hl hH
  have hx := X.1.1
  have hb := X.1.2.1
  replace hl : lv_has ls 3 [(0, .ref a0), (1, .int a1), (2, .int a2)] := hl
  have main : ∀ (H : Heap) (locs : List Loc) (ls : Array Slot) (cells slots bc bs : Nat), f_X7_loosen S a0 a1 a2 bc bs post postX → p_H D cy S A s H locs → lv_has ls 3 [(0, .ref a0), (1, .int a1), (2, .int a2)] → cells + bc ≤ mc ∧ slots + bs ≤ ms → W p l e (rm_X7_loosen mc ms) s m [.ref a0, .int a1, .int a2].toArray below meth c H locs cells slots (vx_MQ below (va_Qi post (p_Post D cy A) A) (p_XC D cy A postX) [.ref a0, .int a1, .int a2].toArray s mc ms A) (F0 m 0 ls []) := by
    intro H locs ls cells slots bc bs hf hH hl hB
    refine lv_aload_n hx hb dX7_loosen_0 rfl (lv_at hl 0 rfl) ?_
    refine lv_iconst (v := 3) hx hb dX7_loosen_1 (by decide) ?_
    refine lv_iload_n hx hb dX7_loosen_2 rfl (lv_at hl 1 rfl) ?_
    refine lv_iload_n hx hb dX7_loosen_3 rfl (lv_at hl 2 rfl) ?_
    refine lv_iconst (v := 0) hx hb dX7_loosen_4 (by decide) ?_
    obtain ⟨hb1, hb2, hf⟩ := hf
    refine q_backI0 X hH (q_runV [.int 3, .int a1, .int a2, .int 0] [] X hH hl (c_X7_refuses l D cy G X.2.2.2.1 S a0 3 a1 a2 0 _ _ hf) mf_X7_refuses mv_X7_refuses tw_989 ⟨Nat.le_of_ble_eq_true rfl, Nat.le_of_ble_eq_true rfl⟩ hb1 hb2 (T := TX7) (N := 12) rfl rfl (Nat.le_of_ble_eq_true rfl) dX7_loosen_5 ⟨Nat.le_trans (Nat.le_add_right _ _) hB.1, Nat.le_trans (Nat.le_add_right _ _) hB.2⟩) (fun v2 S1 hf H locs hH => ?_)
    refine lv_if_eq (tgt := 21) hx hb dX7_loosen_8 (by decide) (fun c3 => ?_) (fun c3 => ?_)
    · have hf := (if_pos c3).mp hf
      refine lv_aload_n hx hb dX7_loosen_21 rfl (lv_at hl 0 rfl) ?_
      refine lv_iconst (v := 3) hx hb dX7_loosen_22 (by decide) ?_
      refine lv_iload_n hx hb dX7_loosen_23 rfl (lv_at hl 1 rfl) ?_
      refine lv_iload_n hx hb dX7_loosen_24 rfl (lv_at hl 2 rfl) ?_
      refine lv_iconst (v := 0) hx hb dX7_loosen_25 (by decide) ?_
      obtain ⟨hb1, hb2, hf⟩ := hf
      obtain ⟨mc5, ms5, hm1, hs1, hf⟩ := hf
      refine q_backIB X hH hB hm1 hs1 (q_runV [.int 3, .int a1, .int a2, .int 0] [] X hH hl (c_X7_changed l D cy G X.2.2.2.1 S1 a0 3 a1 a2 0 mc5 ms5 _ _ hf) mf_X7_changed mv_X7_changed tw_1025 ⟨Nat.le_of_ble_eq_true rfl, Nat.le_of_ble_eq_true rfl⟩ hb1 hb2 (T := TX7) (N := 12) rfl rfl (Nat.le_of_ble_eq_true rfl) dX7_loosen_26 ⟨Nat.le_trans (Nat.add_le_add_left hm1 _) hB.1, Nat.le_trans (Nat.add_le_add_left hs1 _) hB.2⟩) (fun v6 S4 hf H locs cells slots hH hB => ?_)
      exact vx_ret (q_retI X hH hr hlk hf (Nat.le_trans (Nat.le_add_right _ _) hB.1) (Nat.le_trans (Nat.le_add_right _ _) hB.2) dX7_loosen_29)
    · have hf := (if_neg c3).mp hf
      exact q_throw X hH hl hB rfl rfl hst (hGE _ _ _ X.2.2.2.2) hf tw_1009 tw_45 (text := "the bond cannot be loosened") (List.mem_of_getElem? (i := 3) rfl) xa_UnsupportedOperationException xg_UnsupportedOperationException (by decide +kernel) (by decide +kernel) dX7_loosen_11 dX7_loosen_14 dX7_loosen_15 dX7_loosen_17 dX7_loosen_20 htab ⟨Nat.le_of_ble_eq_true rfl, Nat.le_of_ble_eq_true rfl⟩ (Nat.le_of_ble_eq_true rfl) hlk
  exact main s.heap [] ls 0 0 mc ms hf hH hl ⟨by omega, by omega⟩
-- X7_marry
def f_X7_marry (S : PS) (a0 : Nat) (a1 : Int32) (a2 : Int32) (bc bs : Nat) (post : Int32 → PS → Prop) (postX : String → PS → Prop) : Prop :=
  isO S a0 11 (
  f_X7_refuses S a0 4 a1 a2 0 fun v2 S1 => (
  if v2 = 0 then
    isO S1 a0 11 (
    ∃ mc5 ms5 : Nat, mc5 ≤ bc ∧ ms5 ≤ bs ∧ (f_X7_changed S1 a0 4 a1 a2 0 mc5 ms5 fun v6 S4 => (
    post v6 S4)))
  else
    tX S1 "java/lang/UnsupportedOperationException" bc bs postX))
abbrev rm_X7_marry (mc ms : Nat) : Room := { frames := 7, cells := mc, slots := ms, locals := 156 }
set_option maxHeartbeats 4000000 in
set_option maxRecDepth 100000 in
theorem c_X7_marry (l : Launch) (D : va_G) (cy : Nat → ClassId) (G : p_GT) (hG : p_ok G) (hst : l.stackTraces = false) (hGE : ∀ (A : Nat → Prop) (U : State) (H : Heap), G A U H → p_Ex A U H) (S : PS) (a0 : Nat) (a1 : Int32) (a2 : Int32) (mc ms : Nat) (post : Int32 → PS → Prop) (postX : String → PS → Prop) (sz : Nat) (hf : f_X7_marry S a0 a1 a2 mc ms post postX) : p_Xi l D cy G S sz yX7_marry (Cond.code yX7_marry cX7_marry 3 (some .int) :: wG) (rm_X7_marry mc ms) [.ref a0, .int a1, .int a2] mc ms post postX := by
  refine q_startX hG (Qc := fun A => va_Qi post (p_Post D cy A) A) (XC := fun A => p_XC D cy A postX) mf_X7_marry (Nat.le_of_ble_eq_true rfl) (own := RX7) rfl ?_
  intro p e s m below meth c A X hr hlk hnm htab ls hl hH
  have hx := X.1.1
  have hb := X.1.2.1
  replace hl : lv_has ls 3 [(0, .ref a0), (1, .int a1), (2, .int a2)] := hl
  have main : ∀ (H : Heap) (locs : List Loc) (ls : Array Slot) (cells slots bc bs : Nat), f_X7_marry S a0 a1 a2 bc bs post postX → p_H D cy S A s H locs → lv_has ls 3 [(0, .ref a0), (1, .int a1), (2, .int a2)] → cells + bc ≤ mc ∧ slots + bs ≤ ms → W p l e (rm_X7_marry mc ms) s m [.ref a0, .int a1, .int a2].toArray below meth c H locs cells slots (vx_MQ below (va_Qi post (p_Post D cy A) A) (p_XC D cy A postX) [.ref a0, .int a1, .int a2].toArray s mc ms A) (F0 m 0 ls []) := by
    intro H locs ls cells slots bc bs hf hH hl hB
    refine lv_aload_n hx hb dX7_marry_0 rfl (lv_at hl 0 rfl) ?_
    refine lv_iconst (v := 4) hx hb dX7_marry_1 (by decide) ?_
    refine lv_iload_n hx hb dX7_marry_2 rfl (lv_at hl 1 rfl) ?_
    refine lv_iload_n hx hb dX7_marry_3 rfl (lv_at hl 2 rfl) ?_
    refine lv_iconst (v := 0) hx hb dX7_marry_4 (by decide) ?_
    obtain ⟨hb1, hb2, hf⟩ := hf
    refine q_backI0 X hH (q_runV [.int 4, .int a1, .int a2, .int 0] [] X hH hl (c_X7_refuses l D cy G X.2.2.2.1 S a0 4 a1 a2 0 _ _ hf) mf_X7_refuses mv_X7_refuses tw_989 ⟨Nat.le_of_ble_eq_true rfl, Nat.le_of_ble_eq_true rfl⟩ hb1 hb2 (T := TX7) (N := 12) rfl rfl (Nat.le_of_ble_eq_true rfl) dX7_marry_5 ⟨Nat.le_trans (Nat.le_add_right _ _) hB.1, Nat.le_trans (Nat.le_add_right _ _) hB.2⟩) (fun v2 S1 hf H locs hH => ?_)
    refine lv_if_eq (tgt := 21) hx hb dX7_marry_8 (by decide) (fun c3 => ?_) (fun c3 => ?_)
    · have hf := (if_pos c3).mp hf
      refine lv_aload_n hx hb dX7_marry_21 rfl (lv_at hl 0 rfl) ?_
      refine lv_iconst (v := 4) hx hb dX7_marry_22 (by decide) ?_
      refine lv_iload_n hx hb dX7_marry_23 rfl (lv_at hl 1 rfl) ?_
      refine lv_iload_n hx hb dX7_marry_24 rfl (lv_at hl 2 rfl) ?_
      refine lv_iconst (v := 0) hx hb dX7_marry_25 (by decide) ?_
      obtain ⟨hb1, hb2, hf⟩ := hf
      obtain ⟨mc5, ms5, hm1, hs1, hf⟩ := hf
      refine q_backIB X hH hB hm1 hs1 (q_runV [.int 4, .int a1, .int a2, .int 0] [] X hH hl (c_X7_changed l D cy G X.2.2.2.1 S1 a0 4 a1 a2 0 mc5 ms5 _ _ hf) mf_X7_changed mv_X7_changed tw_1025 ⟨Nat.le_of_ble_eq_true rfl, Nat.le_of_ble_eq_true rfl⟩ hb1 hb2 (T := TX7) (N := 12) rfl rfl (Nat.le_of_ble_eq_true rfl) dX7_marry_26 ⟨Nat.le_trans (Nat.add_le_add_left hm1 _) hB.1, Nat.le_trans (Nat.add_le_add_left hs1 _) hB.2⟩) (fun v6 S4 hf H locs cells slots hH hB => ?_)
      exact vx_ret (q_retI X hH hr hlk hf (Nat.le_trans (Nat.le_add_right _ _) hB.1) (Nat.le_trans (Nat.le_add_right _ _) hB.2) dX7_marry_29)
    · have hf := (if_neg c3).mp hf
      exact q_throw X hH hl hB rfl rfl hst (hGE _ _ _ X.2.2.2.2) hf tw_1009 tw_45 (text := "the marriage is refused") (List.mem_of_getElem? (i := 4) rfl) xa_UnsupportedOperationException xg_UnsupportedOperationException (by decide +kernel) (by decide +kernel) dX7_marry_11 dX7_marry_14 dX7_marry_15 dX7_marry_17 dX7_marry_20 htab ⟨Nat.le_of_ble_eq_true rfl, Nat.le_of_ble_eq_true rfl⟩ (Nat.le_of_ble_eq_true rfl) hlk
  exact main s.heap [] ls 0 0 mc ms hf hH hl ⟨by omega, by omega⟩
-- X7_stand
def f_X7_stand (S : PS) (a0 : Nat) (a1 : Int32) (a2 : Int32) (bc bs : Nat) (post : Int32 → PS → Prop) (postX : String → PS → Prop) : Prop :=
  isO S a0 11 (
  f_X7_refuses S a0 5 a1 a2 0 fun v2 S1 => (
  if v2 = 0 then
    isO S1 a0 11 (
    ∃ mc5 ms5 : Nat, mc5 ≤ bc ∧ ms5 ≤ bs ∧ (f_X7_changed S1 a0 5 a1 a2 0 mc5 ms5 fun v6 S4 => (
    post v6 S4)))
  else
    tX S1 "java/lang/UnsupportedOperationException" bc bs postX))
abbrev rm_X7_stand (mc ms : Nat) : Room := { frames := 7, cells := mc, slots := ms, locals := 156 }
set_option maxHeartbeats 4000000 in
set_option maxRecDepth 100000 in
theorem c_X7_stand (l : Launch) (D : va_G) (cy : Nat → ClassId) (G : p_GT) (hG : p_ok G) (hst : l.stackTraces = false) (hGE : ∀ (A : Nat → Prop) (U : State) (H : Heap), G A U H → p_Ex A U H) (S : PS) (a0 : Nat) (a1 : Int32) (a2 : Int32) (mc ms : Nat) (post : Int32 → PS → Prop) (postX : String → PS → Prop) (sz : Nat) (hf : f_X7_stand S a0 a1 a2 mc ms post postX) : p_Xi l D cy G S sz yX7_stand (Cond.code yX7_stand cX7_stand 3 (some .int) :: wG) (rm_X7_stand mc ms) [.ref a0, .int a1, .int a2] mc ms post postX := by
  refine q_startX hG (Qc := fun A => va_Qi post (p_Post D cy A) A) (XC := fun A => p_XC D cy A postX) mf_X7_stand (Nat.le_of_ble_eq_true rfl) (own := RX7) rfl ?_
  intro p e s m below meth c A X hr hlk hnm htab ls hl hH
  have hx := X.1.1
  have hb := X.1.2.1
  replace hl : lv_has ls 3 [(0, .ref a0), (1, .int a1), (2, .int a2)] := hl
  have main : ∀ (H : Heap) (locs : List Loc) (ls : Array Slot) (cells slots bc bs : Nat), f_X7_stand S a0 a1 a2 bc bs post postX → p_H D cy S A s H locs → lv_has ls 3 [(0, .ref a0), (1, .int a1), (2, .int a2)] → cells + bc ≤ mc ∧ slots + bs ≤ ms → W p l e (rm_X7_stand mc ms) s m [.ref a0, .int a1, .int a2].toArray below meth c H locs cells slots (vx_MQ below (va_Qi post (p_Post D cy A) A) (p_XC D cy A postX) [.ref a0, .int a1, .int a2].toArray s mc ms A) (F0 m 0 ls []) := by
    intro H locs ls cells slots bc bs hf hH hl hB
    refine lv_aload_n hx hb dX7_stand_0 rfl (lv_at hl 0 rfl) ?_
    refine lv_iconst (v := 5) hx hb dX7_stand_1 (by decide) ?_
    refine lv_iload_n hx hb dX7_stand_2 rfl (lv_at hl 1 rfl) ?_
    refine lv_iload_n hx hb dX7_stand_3 rfl (lv_at hl 2 rfl) ?_
    refine lv_iconst (v := 0) hx hb dX7_stand_4 (by decide) ?_
    obtain ⟨hb1, hb2, hf⟩ := hf
    refine q_backI0 X hH (q_runV [.int 5, .int a1, .int a2, .int 0] [] X hH hl (c_X7_refuses l D cy G X.2.2.2.1 S a0 5 a1 a2 0 _ _ hf) mf_X7_refuses mv_X7_refuses tw_989 ⟨Nat.le_of_ble_eq_true rfl, Nat.le_of_ble_eq_true rfl⟩ hb1 hb2 (T := TX7) (N := 12) rfl rfl (Nat.le_of_ble_eq_true rfl) dX7_stand_5 ⟨Nat.le_trans (Nat.le_add_right _ _) hB.1, Nat.le_trans (Nat.le_add_right _ _) hB.2⟩) (fun v2 S1 hf H locs hH => ?_)
    refine lv_if_eq (tgt := 21) hx hb dX7_stand_8 (by decide) (fun c3 => ?_) (fun c3 => ?_)
    · have hf := (if_pos c3).mp hf
      refine lv_aload_n hx hb dX7_stand_21 rfl (lv_at hl 0 rfl) ?_
      refine lv_iconst (v := 5) hx hb dX7_stand_22 (by decide) ?_
      refine lv_iload_n hx hb dX7_stand_23 rfl (lv_at hl 1 rfl) ?_
      refine lv_iload_n hx hb dX7_stand_24 rfl (lv_at hl 2 rfl) ?_
      refine lv_iconst (v := 0) hx hb dX7_stand_25 (by decide) ?_
      obtain ⟨hb1, hb2, hf⟩ := hf
      obtain ⟨mc5, ms5, hm1, hs1, hf⟩ := hf
      refine q_backIB X hH hB hm1 hs1 (q_runV [.int 5, .int a1, .int a2, .int 0] [] X hH hl (c_X7_changed l D cy G X.2.2.2.1 S1 a0 5 a1 a2 0 mc5 ms5 _ _ hf) mf_X7_changed mv_X7_changed tw_1025 ⟨Nat.le_of_ble_eq_true rfl, Nat.le_of_ble_eq_true rfl⟩ hb1 hb2 (T := TX7) (N := 12) rfl rfl (Nat.le_of_ble_eq_true rfl) dX7_stand_26 ⟨Nat.le_trans (Nat.add_le_add_left hm1 _) hB.1, Nat.le_trans (Nat.add_le_add_left hs1 _) hB.2⟩) (fun v6 S4 hf H locs cells slots hH hB => ?_)
      exact vx_ret (q_retI X hH hr hlk hf (Nat.le_trans (Nat.le_add_right _ _) hB.1) (Nat.le_trans (Nat.le_add_right _ _) hB.2) dX7_stand_29)
    · have hf := (if_neg c3).mp hf
      exact q_throw X hH hl hB rfl rfl hst (hGE _ _ _ X.2.2.2.2) hf tw_1009 tw_45 (text := "the side is refused") (List.mem_of_getElem? (i := 5) rfl) xa_UnsupportedOperationException xg_UnsupportedOperationException (by decide +kernel) (by decide +kernel) dX7_stand_11 dX7_stand_14 dX7_stand_15 dX7_stand_17 dX7_stand_20 htab ⟨Nat.le_of_ble_eq_true rfl, Nat.le_of_ble_eq_true rfl⟩ (Nat.le_of_ble_eq_true rfl) hlk
  exact main s.heap [] ls 0 0 mc ms hf hH hl ⟨by omega, by omega⟩
-- X7_part
def f_X7_part (S : PS) (a0 : Nat) (bc bs : Nat) (post : Int32 → PS → Prop) (postX : String → PS → Prop) : Prop :=
  isO S a0 11 (
  f_X7_refuses S a0 6 0 0 0 fun v2 S1 => (
  if v2 = 0 then
    isO S1 a0 11 (
    ∃ mc5 ms5 : Nat, mc5 ≤ bc ∧ ms5 ≤ bs ∧ (f_X7_changed S1 a0 6 0 0 0 mc5 ms5 fun v6 S4 => (
    post v6 S4)))
  else
    tX S1 "java/lang/UnsupportedOperationException" bc bs postX))
abbrev rm_X7_part (mc ms : Nat) : Room := { frames := 7, cells := mc, slots := ms, locals := 156 }
set_option maxHeartbeats 4000000 in
set_option maxRecDepth 100000 in
theorem c_X7_part (l : Launch) (D : va_G) (cy : Nat → ClassId) (G : p_GT) (hG : p_ok G) (hst : l.stackTraces = false) (hGE : ∀ (A : Nat → Prop) (U : State) (H : Heap), G A U H → p_Ex A U H) (S : PS) (a0 : Nat) (mc ms : Nat) (post : Int32 → PS → Prop) (postX : String → PS → Prop) (sz : Nat) (hf : f_X7_part S a0 mc ms post postX) : p_Xi l D cy G S sz yX7_part (Cond.code yX7_part cX7_part 1 (some .int) :: wG) (rm_X7_part mc ms) [.ref a0] mc ms post postX := by
  refine q_startX hG (Qc := fun A => va_Qi post (p_Post D cy A) A) (XC := fun A => p_XC D cy A postX) mf_X7_part (Nat.le_of_ble_eq_true rfl) (own := RX7) rfl ?_
  intro p e s m below meth c A X hr hlk hnm htab ls hl hH
  have hx := X.1.1
  have hb := X.1.2.1
  replace hl : lv_has ls 1 [(0, .ref a0)] := hl
  have main : ∀ (H : Heap) (locs : List Loc) (ls : Array Slot) (cells slots bc bs : Nat), f_X7_part S a0 bc bs post postX → p_H D cy S A s H locs → lv_has ls 1 [(0, .ref a0)] → cells + bc ≤ mc ∧ slots + bs ≤ ms → W p l e (rm_X7_part mc ms) s m [.ref a0].toArray below meth c H locs cells slots (vx_MQ below (va_Qi post (p_Post D cy A) A) (p_XC D cy A postX) [.ref a0].toArray s mc ms A) (F0 m 0 ls []) := by
    intro H locs ls cells slots bc bs hf hH hl hB
    refine lv_aload_n hx hb dX7_part_0 rfl (lv_at hl 0 rfl) ?_
    refine lv_bipush (v := 6) hx hb dX7_part_1 (by decide) ?_
    refine lv_iconst (v := 0) hx hb dX7_part_3 (by decide) ?_
    refine lv_iconst (v := 0) hx hb dX7_part_4 (by decide) ?_
    refine lv_iconst (v := 0) hx hb dX7_part_5 (by decide) ?_
    obtain ⟨hb1, hb2, hf⟩ := hf
    refine q_backI0 X hH (q_runV [.int 6, .int 0, .int 0, .int 0] [] X hH hl (c_X7_refuses l D cy G X.2.2.2.1 S a0 6 0 0 0 _ _ hf) mf_X7_refuses mv_X7_refuses tw_989 ⟨Nat.le_of_ble_eq_true rfl, Nat.le_of_ble_eq_true rfl⟩ hb1 hb2 (T := TX7) (N := 12) rfl rfl (Nat.le_of_ble_eq_true rfl) dX7_part_6 ⟨Nat.le_trans (Nat.le_add_right _ _) hB.1, Nat.le_trans (Nat.le_add_right _ _) hB.2⟩) (fun v2 S1 hf H locs hH => ?_)
    refine lv_if_eq (tgt := 22) hx hb dX7_part_9 (by decide) (fun c3 => ?_) (fun c3 => ?_)
    · have hf := (if_pos c3).mp hf
      refine lv_aload_n hx hb dX7_part_22 rfl (lv_at hl 0 rfl) ?_
      refine lv_bipush (v := 6) hx hb dX7_part_23 (by decide) ?_
      refine lv_iconst (v := 0) hx hb dX7_part_25 (by decide) ?_
      refine lv_iconst (v := 0) hx hb dX7_part_26 (by decide) ?_
      refine lv_iconst (v := 0) hx hb dX7_part_27 (by decide) ?_
      obtain ⟨hb1, hb2, hf⟩ := hf
      obtain ⟨mc5, ms5, hm1, hs1, hf⟩ := hf
      refine q_backIB X hH hB hm1 hs1 (q_runV [.int 6, .int 0, .int 0, .int 0] [] X hH hl (c_X7_changed l D cy G X.2.2.2.1 S1 a0 6 0 0 0 mc5 ms5 _ _ hf) mf_X7_changed mv_X7_changed tw_1025 ⟨Nat.le_of_ble_eq_true rfl, Nat.le_of_ble_eq_true rfl⟩ hb1 hb2 (T := TX7) (N := 12) rfl rfl (Nat.le_of_ble_eq_true rfl) dX7_part_28 ⟨Nat.le_trans (Nat.add_le_add_left hm1 _) hB.1, Nat.le_trans (Nat.add_le_add_left hs1 _) hB.2⟩) (fun v6 S4 hf H locs cells slots hH hB => ?_)
      exact vx_ret (q_retI X hH hr hlk hf (Nat.le_trans (Nat.le_add_right _ _) hB.1) (Nat.le_trans (Nat.le_add_right _ _) hB.2) dX7_part_31)
    · have hf := (if_neg c3).mp hf
      exact q_throw X hH hl hB rfl rfl hst (hGE _ _ _ X.2.2.2.2) hf tw_1009 tw_45 (text := "there are fewer than two households") (List.mem_of_getElem? (i := 6) rfl) xa_UnsupportedOperationException xg_UnsupportedOperationException (by decide +kernel) (by decide +kernel) dX7_part_12 dX7_part_15 dX7_part_16 dX7_part_18 dX7_part_21 htab ⟨Nat.le_of_ble_eq_true rfl, Nat.le_of_ble_eq_true rfl⟩ (Nat.le_of_ble_eq_true rfl) hlk
  exact main s.heap [] ls 0 0 mc ms hf hH hl ⟨by omega, by omega⟩
